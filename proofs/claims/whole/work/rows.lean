section
-- ===== PART A: goes FIRST, ahead of the names: the tables' words, and 'selects' of the private methods out of them =====
/-- a private method of a class that the tables say can be made, by its rows of tables_1 -/
def lw_okq (q : MethodName × Nat) : Prop := (q.1.cls ≠ "java/lang/invoke/MethodHandle" ∧ q.1.cls ≠ "java/lang/invoke/VarHandle") ∧ Cond.instantiable q.1.cls q.2 ∈ tables_1 ∧ Cond.privateMethod q.1 ∈ tables_1 ∧ Cond.instanceMethod q.1 ∈ tables_1
theorem lw_p0 : lw_okq (⟨"MindDuty$Reader", "skipBlanks", "()V"⟩, 7) := ⟨⟨by decide +kernel, by decide +kernel⟩, List.mem_of_getElem? (i := 21) (by decide +kernel), List.mem_of_getElem? (i := 312) (by decide +kernel), List.mem_of_getElem? (i := 313) (by decide +kernel)⟩
theorem lw_p1 : lw_okq (⟨"MindDuty$Reader", "readClause", "()V"⟩, 7) := ⟨⟨by decide +kernel, by decide +kernel⟩, List.mem_of_getElem? (i := 21) (by decide +kernel), List.mem_of_getElem? (i := 316) (by decide +kernel), List.mem_of_getElem? (i := 317) (by decide +kernel)⟩
theorem lw_p2 : lw_okq (⟨"MindDuty$Reader", "letterHere", "()I"⟩, 7) := ⟨⟨by decide +kernel, by decide +kernel⟩, List.mem_of_getElem? (i := 21) (by decide +kernel), List.mem_of_getElem? (i := 320) (by decide +kernel), List.mem_of_getElem? (i := 321) (by decide +kernel)⟩
theorem lw_p3 : lw_okq (⟨"MindDuty$Reader", "checkWord", "(I)V"⟩, 7) := ⟨⟨by decide +kernel, by decide +kernel⟩, List.mem_of_getElem? (i := 21) (by decide +kernel), List.mem_of_getElem? (i := 324) (by decide +kernel), List.mem_of_getElem? (i := 325) (by decide +kernel)⟩
theorem lw_p4 : lw_okq (⟨"MindDuty$Reader", "findFault", "(II)V"⟩, 7) := ⟨⟨by decide +kernel, by decide +kernel⟩, List.mem_of_getElem? (i := 21) (by decide +kernel), List.mem_of_getElem? (i := 328) (by decide +kernel), List.mem_of_getElem? (i := 329) (by decide +kernel)⟩
theorem lw_p5 : lw_okq (⟨"MindDuty$Reader", "readGate", "()V"⟩, 7) := ⟨⟨by decide +kernel, by decide +kernel⟩, List.mem_of_getElem? (i := 21) (by decide +kernel), List.mem_of_getElem? (i := 332) (by decide +kernel), List.mem_of_getElem? (i := 333) (by decide +kernel)⟩
theorem lw_p6 : lw_okq (⟨"MindDuty$Reader", "readNumber", "(II)I"⟩, 7) := ⟨⟨by decide +kernel, by decide +kernel⟩, List.mem_of_getElem? (i := 21) (by decide +kernel), List.mem_of_getElem? (i := 336) (by decide +kernel), List.mem_of_getElem? (i := 337) (by decide +kernel)⟩
theorem lw_p7 : lw_okq (⟨"MindDuty$Reader", "readIdea", "()V"⟩, 7) := ⟨⟨by decide +kernel, by decide +kernel⟩, List.mem_of_getElem? (i := 21) (by decide +kernel), List.mem_of_getElem? (i := 346) (by decide +kernel), List.mem_of_getElem? (i := 347) (by decide +kernel)⟩
theorem lw_p8 : lw_okq (⟨"MindDuty$Reader", "readJoining", "()V"⟩, 7) := ⟨⟨by decide +kernel, by decide +kernel⟩, List.mem_of_getElem? (i := 21) (by decide +kernel), List.mem_of_getElem? (i := 350) (by decide +kernel), List.mem_of_getElem? (i := 351) (by decide +kernel)⟩
theorem lw_p9 : lw_okq (⟨"MindDuty$Reader", "readToldIdea", "()I"⟩, 7) := ⟨⟨by decide +kernel, by decide +kernel⟩, List.mem_of_getElem? (i := 21) (by decide +kernel), List.mem_of_getElem? (i := 354) (by decide +kernel), List.mem_of_getElem? (i := 355) (by decide +kernel)⟩
theorem lw_p10 : lw_okq (⟨"MindDuty$Reader", "readTalk", "()V"⟩, 7) := ⟨⟨by decide +kernel, by decide +kernel⟩, List.mem_of_getElem? (i := 21) (by decide +kernel), List.mem_of_getElem? (i := 358) (by decide +kernel), List.mem_of_getElem? (i := 359) (by decide +kernel)⟩
theorem lw_p11 : lw_okq (⟨"MindDuty$Reader", "readRegistered", "()V"⟩, 7) := ⟨⟨by decide +kernel, by decide +kernel⟩, List.mem_of_getElem? (i := 21) (by decide +kernel), List.mem_of_getElem? (i := 362) (by decide +kernel), List.mem_of_getElem? (i := 363) (by decide +kernel)⟩
theorem lw_p12 : lw_okq (⟨"MindDuty$Reader", "readTraveller", "()V"⟩, 7) := ⟨⟨by decide +kernel, by decide +kernel⟩, List.mem_of_getElem? (i := 21) (by decide +kernel), List.mem_of_getElem? (i := 366) (by decide +kernel), List.mem_of_getElem? (i := 367) (by decide +kernel)⟩
theorem lw_p13 : lw_okq (⟨"MindDuty$Reader", "readEnd", "()V"⟩, 7) := ⟨⟨by decide +kernel, by decide +kernel⟩, List.mem_of_getElem? (i := 21) (by decide +kernel), List.mem_of_getElem? (i := 370) (by decide +kernel), List.mem_of_getElem? (i := 371) (by decide +kernel)⟩
theorem lw_p14 : lw_okq (⟨"MindDuty$Country", "joined", "(I)I"⟩, 17) := ⟨⟨by decide +kernel, by decide +kernel⟩, List.mem_of_getElem? (i := 27) (by decide +kernel), List.mem_of_getElem? (i := 382) (by decide +kernel), List.mem_of_getElem? (i := 383) (by decide +kernel)⟩
theorem lw_p15 : lw_okq (⟨"MindDuty", "inTheCountry", "()I"⟩, 9) := ⟨⟨by decide +kernel, by decide +kernel⟩, List.mem_of_getElem? (i := 13) (by decide +kernel), List.mem_of_getElem? (i := 406) (by decide +kernel), List.mem_of_getElem? (i := 407) (by decide +kernel)⟩
def lw_privs_1 : List (MethodName × Nat) := [(⟨"MindDuty$Reader", "skipBlanks", "()V"⟩, 7), (⟨"MindDuty$Reader", "readClause", "()V"⟩, 7), (⟨"MindDuty$Reader", "letterHere", "()I"⟩, 7), (⟨"MindDuty$Reader", "checkWord", "(I)V"⟩, 7), (⟨"MindDuty$Reader", "findFault", "(II)V"⟩, 7), (⟨"MindDuty$Reader", "readGate", "()V"⟩, 7), (⟨"MindDuty$Reader", "readNumber", "(II)I"⟩, 7), (⟨"MindDuty$Reader", "readIdea", "()V"⟩, 7), (⟨"MindDuty$Reader", "readJoining", "()V"⟩, 7), (⟨"MindDuty$Reader", "readToldIdea", "()I"⟩, 7), (⟨"MindDuty$Reader", "readTalk", "()V"⟩, 7), (⟨"MindDuty$Reader", "readRegistered", "()V"⟩, 7), (⟨"MindDuty$Reader", "readTraveller", "()V"⟩, 7), (⟨"MindDuty$Reader", "readEnd", "()V"⟩, 7), (⟨"MindDuty$Country", "joined", "(I)I"⟩, 17), (⟨"MindDuty", "inTheCountry", "()I"⟩, 9)]
theorem lw_r1 : ∀ q ∈ lw_privs_1, lw_okq q := List.forall_mem_cons.mpr ⟨lw_p0, List.forall_mem_cons.mpr ⟨lw_p1, List.forall_mem_cons.mpr ⟨lw_p2, List.forall_mem_cons.mpr ⟨lw_p3, List.forall_mem_cons.mpr ⟨lw_p4, List.forall_mem_cons.mpr ⟨lw_p5, List.forall_mem_cons.mpr ⟨lw_p6, List.forall_mem_cons.mpr ⟨lw_p7, List.forall_mem_cons.mpr ⟨lw_p8, List.forall_mem_cons.mpr ⟨lw_p9, List.forall_mem_cons.mpr ⟨lw_p10, List.forall_mem_cons.mpr ⟨lw_p11, List.forall_mem_cons.mpr ⟨lw_p12, List.forall_mem_cons.mpr ⟨lw_p13, List.forall_mem_cons.mpr ⟨lw_p14, List.forall_mem_cons.mpr ⟨lw_p15, fun _ h => absurd h List.not_mem_nil⟩⟩⟩⟩⟩⟩⟩⟩⟩⟩⟩⟩⟩⟩⟩⟩
theorem lw_p16 : lw_okq (⟨"MindDuty", "stuckOnes", "()I"⟩, 9) := ⟨⟨by decide +kernel, by decide +kernel⟩, List.mem_of_getElem? (i := 13) (by decide +kernel), List.mem_of_getElem? (i := 418) (by decide +kernel), List.mem_of_getElem? (i := 419) (by decide +kernel)⟩
theorem lw_p17 : lw_okq (⟨"MindDuty", "dutyOf", "(I)I"⟩, 9) := ⟨⟨by decide +kernel, by decide +kernel⟩, List.mem_of_getElem? (i := 13) (by decide +kernel), List.mem_of_getElem? (i := 453) (by decide +kernel), List.mem_of_getElem? (i := 454) (by decide +kernel)⟩
theorem lw_p18 : lw_okq (⟨"MindDuty", "letPass", "(I)I"⟩, 9) := ⟨⟨by decide +kernel, by decide +kernel⟩, List.mem_of_getElem? (i := 13) (by decide +kernel), List.mem_of_getElem? (i := 476) (by decide +kernel), List.mem_of_getElem? (i := 477) (by decide +kernel)⟩
theorem lw_p19 : lw_okq (⟨"MindDuty", "driftOneDay", "()V"⟩, 9) := ⟨⟨by decide +kernel, by decide +kernel⟩, List.mem_of_getElem? (i := 13) (by decide +kernel), List.mem_of_getElem? (i := 524) (by decide +kernel), List.mem_of_getElem? (i := 525) (by decide +kernel)⟩
theorem lw_p20 : lw_okq (⟨"MindDuty", "draw", "(I)I"⟩, 9) := ⟨⟨by decide +kernel, by decide +kernel⟩, List.mem_of_getElem? (i := 13) (by decide +kernel), List.mem_of_getElem? (i := 528) (by decide +kernel), List.mem_of_getElem? (i := 529) (by decide +kernel)⟩
theorem lw_p21 : lw_okq (⟨"MindDuty", "cheapestParts", "(I)I"⟩, 9) := ⟨⟨by decide +kernel, by decide +kernel⟩, List.mem_of_getElem? (i := 13) (by decide +kernel), List.mem_of_getElem? (i := 556) (by decide +kernel), List.mem_of_getElem? (i := 557) (by decide +kernel)⟩
theorem lw_p22 : lw_okq (⟨"MindDuty", "nextOnTheWay", "(I)I"⟩, 9) := ⟨⟨by decide +kernel, by decide +kernel⟩, List.mem_of_getElem? (i := 13) (by decide +kernel), List.mem_of_getElem? (i := 568) (by decide +kernel), List.mem_of_getElem? (i := 569) (by decide +kernel)⟩
theorem lw_p23 : lw_okq (⟨"MindDuty", "smallestRegister", "()I"⟩, 9) := ⟨⟨by decide +kernel, by decide +kernel⟩, List.mem_of_getElem? (i := 13) (by decide +kernel), List.mem_of_getElem? (i := 583) (by decide +kernel), List.mem_of_getElem? (i := 584) (by decide +kernel)⟩
theorem lw_p24 : lw_okq (⟨"MindDuty", "needless", "()I"⟩, 9) := ⟨⟨by decide +kernel, by decide +kernel⟩, List.mem_of_getElem? (i := 13) (by decide +kernel), List.mem_of_getElem? (i := 593) (by decide +kernel), List.mem_of_getElem? (i := 594) (by decide +kernel)⟩
theorem lw_p25 : lw_okq (⟨"MindDuty$Questions", "fits", "(I)Z"⟩, 8) := ⟨⟨by decide +kernel, by decide +kernel⟩, List.mem_of_getElem? (i := 208) (by decide +kernel), List.mem_of_getElem? (i := 635) (by decide +kernel), List.mem_of_getElem? (i := 636) (by decide +kernel)⟩
theorem lw_p26 : lw_okq (⟨"MindDuty$Questions", "countIdeas", "(I)V"⟩, 8) := ⟨⟨by decide +kernel, by decide +kernel⟩, List.mem_of_getElem? (i := 208) (by decide +kernel), List.mem_of_getElem? (i := 643) (by decide +kernel), List.mem_of_getElem? (i := 644) (by decide +kernel)⟩
theorem lw_p27 : lw_okq (⟨"MindDutyModel", "here", "()I"⟩, 48) := ⟨⟨by decide +kernel, by decide +kernel⟩, List.mem_of_getElem? (i := 696) (by decide +kernel), List.mem_of_getElem? (i := 861) (by decide +kernel), List.mem_of_getElem? (i := 862) (by decide +kernel)⟩
theorem lw_p28 : lw_okq (⟨"MindDutyModel", "takeClause", "()I"⟩, 48) := ⟨⟨by decide +kernel, by decide +kernel⟩, List.mem_of_getElem? (i := 696) (by decide +kernel), List.mem_of_getElem? (i := 865) (by decide +kernel), List.mem_of_getElem? (i := 866) (by decide +kernel)⟩
theorem lw_p29 : lw_okq (⟨"MindDutyModel", "whichClause", "(I)I"⟩, 48) := ⟨⟨by decide +kernel, by decide +kernel⟩, List.mem_of_getElem? (i := 696) (by decide +kernel), List.mem_of_getElem? (i := 869) (by decide +kernel), List.mem_of_getElem? (i := 870) (by decide +kernel)⟩
theorem lw_p30 : lw_okq (⟨"MindDutyModel", "fails", "(II)I"⟩, 48) := ⟨⟨by decide +kernel, by decide +kernel⟩, List.mem_of_getElem? (i := 696) (by decide +kernel), List.mem_of_getElem? (i := 873) (by decide +kernel), List.mem_of_getElem? (i := 874) (by decide +kernel)⟩
theorem lw_p31 : lw_okq (⟨"MindDutyModel", "isFull", "(I)Z"⟩, 48) := ⟨⟨by decide +kernel, by decide +kernel⟩, List.mem_of_getElem? (i := 696) (by decide +kernel), List.mem_of_getElem? (i := 877) (by decide +kernel), List.mem_of_getElem? (i := 878) (by decide +kernel)⟩
def lw_privs_2 : List (MethodName × Nat) := [(⟨"MindDuty", "stuckOnes", "()I"⟩, 9), (⟨"MindDuty", "dutyOf", "(I)I"⟩, 9), (⟨"MindDuty", "letPass", "(I)I"⟩, 9), (⟨"MindDuty", "driftOneDay", "()V"⟩, 9), (⟨"MindDuty", "draw", "(I)I"⟩, 9), (⟨"MindDuty", "cheapestParts", "(I)I"⟩, 9), (⟨"MindDuty", "nextOnTheWay", "(I)I"⟩, 9), (⟨"MindDuty", "smallestRegister", "()I"⟩, 9), (⟨"MindDuty", "needless", "()I"⟩, 9), (⟨"MindDuty$Questions", "fits", "(I)Z"⟩, 8), (⟨"MindDuty$Questions", "countIdeas", "(I)V"⟩, 8), (⟨"MindDutyModel", "here", "()I"⟩, 48), (⟨"MindDutyModel", "takeClause", "()I"⟩, 48), (⟨"MindDutyModel", "whichClause", "(I)I"⟩, 48), (⟨"MindDutyModel", "fails", "(II)I"⟩, 48), (⟨"MindDutyModel", "isFull", "(I)Z"⟩, 48)]
theorem lw_r2 : ∀ q ∈ lw_privs_2, lw_okq q := List.forall_mem_cons.mpr ⟨lw_p16, List.forall_mem_cons.mpr ⟨lw_p17, List.forall_mem_cons.mpr ⟨lw_p18, List.forall_mem_cons.mpr ⟨lw_p19, List.forall_mem_cons.mpr ⟨lw_p20, List.forall_mem_cons.mpr ⟨lw_p21, List.forall_mem_cons.mpr ⟨lw_p22, List.forall_mem_cons.mpr ⟨lw_p23, List.forall_mem_cons.mpr ⟨lw_p24, List.forall_mem_cons.mpr ⟨lw_p25, List.forall_mem_cons.mpr ⟨lw_p26, List.forall_mem_cons.mpr ⟨lw_p27, List.forall_mem_cons.mpr ⟨lw_p28, List.forall_mem_cons.mpr ⟨lw_p29, List.forall_mem_cons.mpr ⟨lw_p30, List.forall_mem_cons.mpr ⟨lw_p31, fun _ h => absurd h List.not_mem_nil⟩⟩⟩⟩⟩⟩⟩⟩⟩⟩⟩⟩⟩⟩⟩⟩
theorem lw_p32 : lw_okq (⟨"MindDutyModel", "takeBody", "(I)I"⟩, 48) := ⟨⟨by decide +kernel, by decide +kernel⟩, List.mem_of_getElem? (i := 696) (by decide +kernel), List.mem_of_getElem? (i := 881) (by decide +kernel), List.mem_of_getElem? (i := 882) (by decide +kernel)⟩
theorem lw_p33 : lw_okq (⟨"MindDutyModel", "takeGate", "()I"⟩, 48) := ⟨⟨by decide +kernel, by decide +kernel⟩, List.mem_of_getElem? (i := 696) (by decide +kernel), List.mem_of_getElem? (i := 885) (by decide +kernel), List.mem_of_getElem? (i := 886) (by decide +kernel)⟩
theorem lw_p34 : lw_okq (⟨"MindDutyModel", "into", "([IIII)I"⟩, 48) := ⟨⟨by decide +kernel, by decide +kernel⟩, List.mem_of_getElem? (i := 696) (by decide +kernel), List.mem_of_getElem? (i := 889) (by decide +kernel), List.mem_of_getElem? (i := 890) (by decide +kernel)⟩
theorem lw_p35 : lw_okq (⟨"MindDutyModel", "takeNumber", "(II)I"⟩, 48) := ⟨⟨by decide +kernel, by decide +kernel⟩, List.mem_of_getElem? (i := 696) (by decide +kernel), List.mem_of_getElem? (i := 893) (by decide +kernel), List.mem_of_getElem? (i := 894) (by decide +kernel)⟩
theorem lw_p36 : lw_okq (⟨"MindDutyModel", "takeIdea", "()I"⟩, 48) := ⟨⟨by decide +kernel, by decide +kernel⟩, List.mem_of_getElem? (i := 696) (by decide +kernel), List.mem_of_getElem? (i := 899) (by decide +kernel), List.mem_of_getElem? (i := 900) (by decide +kernel)⟩
theorem lw_p37 : lw_okq (⟨"MindDutyModel", "takeJoin", "()I"⟩, 48) := ⟨⟨by decide +kernel, by decide +kernel⟩, List.mem_of_getElem? (i := 696) (by decide +kernel), List.mem_of_getElem? (i := 903) (by decide +kernel), List.mem_of_getElem? (i := 904) (by decide +kernel)⟩
theorem lw_p38 : lw_okq (⟨"MindDutyModel", "takeTalk", "()I"⟩, 48) := ⟨⟨by decide +kernel, by decide +kernel⟩, List.mem_of_getElem? (i := 696) (by decide +kernel), List.mem_of_getElem? (i := 907) (by decide +kernel), List.mem_of_getElem? (i := 908) (by decide +kernel)⟩
theorem lw_p39 : lw_okq (⟨"MindDutyModel", "takeRegistered", "()I"⟩, 48) := ⟨⟨by decide +kernel, by decide +kernel⟩, List.mem_of_getElem? (i := 696) (by decide +kernel), List.mem_of_getElem? (i := 911) (by decide +kernel), List.mem_of_getElem? (i := 912) (by decide +kernel)⟩
theorem lw_p40 : lw_okq (⟨"MindDutyModel", "takeTraveller", "()I"⟩, 48) := ⟨⟨by decide +kernel, by decide +kernel⟩, List.mem_of_getElem? (i := 696) (by decide +kernel), List.mem_of_getElem? (i := 918) (by decide +kernel), List.mem_of_getElem? (i := 919) (by decide +kernel)⟩
theorem lw_p41 : lw_okq (⟨"MindDutyModel", "takeRead", "()V"⟩, 48) := ⟨⟨by decide +kernel, by decide +kernel⟩, List.mem_of_getElem? (i := 696) (by decide +kernel), List.mem_of_getElem? (i := 922) (by decide +kernel), List.mem_of_getElem? (i := 923) (by decide +kernel)⟩
theorem lw_p42 : lw_okq (⟨"MindDutyModel", "close", "(I)I"⟩, 48) := ⟨⟨by decide +kernel, by decide +kernel⟩, List.mem_of_getElem? (i := 696) (by decide +kernel), List.mem_of_getElem? (i := 934) (by decide +kernel), List.mem_of_getElem? (i := 935) (by decide +kernel)⟩
theorem lw_p43 : lw_okq (⟨"MindDutyModel", "stuckOnes", "()I"⟩, 48) := ⟨⟨by decide +kernel, by decide +kernel⟩, List.mem_of_getElem? (i := 696) (by decide +kernel), List.mem_of_getElem? (i := 938) (by decide +kernel), List.mem_of_getElem? (i := 939) (by decide +kernel)⟩
theorem lw_p44 : lw_okq (⟨"MindDutyModel", "isGone", "(I)Z"⟩, 48) := ⟨⟨by decide +kernel, by decide +kernel⟩, List.mem_of_getElem? (i := 696) (by decide +kernel), List.mem_of_getElem? (i := 942) (by decide +kernel), List.mem_of_getElem? (i := 943) (by decide +kernel)⟩
theorem lw_p45 : lw_okq (⟨"MindDutyModel", "isStuck", "(I)Z"⟩, 48) := ⟨⟨by decide +kernel, by decide +kernel⟩, List.mem_of_getElem? (i := 696) (by decide +kernel), List.mem_of_getElem? (i := 946) (by decide +kernel), List.mem_of_getElem? (i := 947) (by decide +kernel)⟩
theorem lw_p46 : lw_okq (⟨"MindDutyModel", "sizeOf", "(I)I"⟩, 48) := ⟨⟨by decide +kernel, by decide +kernel⟩, List.mem_of_getElem? (i := 696) (by decide +kernel), List.mem_of_getElem? (i := 950) (by decide +kernel), List.mem_of_getElem? (i := 951) (by decide +kernel)⟩
theorem lw_p47 : lw_okq (⟨"MindDutyModel", "isIdea", "(I)Z"⟩, 48) := ⟨⟨by decide +kernel, by decide +kernel⟩, List.mem_of_getElem? (i := 696) (by decide +kernel), List.mem_of_getElem? (i := 958) (by decide +kernel), List.mem_of_getElem? (i := 959) (by decide +kernel)⟩
def lw_privs_3 : List (MethodName × Nat) := [(⟨"MindDutyModel", "takeBody", "(I)I"⟩, 48), (⟨"MindDutyModel", "takeGate", "()I"⟩, 48), (⟨"MindDutyModel", "into", "([IIII)I"⟩, 48), (⟨"MindDutyModel", "takeNumber", "(II)I"⟩, 48), (⟨"MindDutyModel", "takeIdea", "()I"⟩, 48), (⟨"MindDutyModel", "takeJoin", "()I"⟩, 48), (⟨"MindDutyModel", "takeTalk", "()I"⟩, 48), (⟨"MindDutyModel", "takeRegistered", "()I"⟩, 48), (⟨"MindDutyModel", "takeTraveller", "()I"⟩, 48), (⟨"MindDutyModel", "takeRead", "()V"⟩, 48), (⟨"MindDutyModel", "close", "(I)I"⟩, 48), (⟨"MindDutyModel", "stuckOnes", "()I"⟩, 48), (⟨"MindDutyModel", "isGone", "(I)Z"⟩, 48), (⟨"MindDutyModel", "isStuck", "(I)Z"⟩, 48), (⟨"MindDutyModel", "sizeOf", "(I)I"⟩, 48), (⟨"MindDutyModel", "isIdea", "(I)Z"⟩, 48)]
theorem lw_r3 : ∀ q ∈ lw_privs_3, lw_okq q := List.forall_mem_cons.mpr ⟨lw_p32, List.forall_mem_cons.mpr ⟨lw_p33, List.forall_mem_cons.mpr ⟨lw_p34, List.forall_mem_cons.mpr ⟨lw_p35, List.forall_mem_cons.mpr ⟨lw_p36, List.forall_mem_cons.mpr ⟨lw_p37, List.forall_mem_cons.mpr ⟨lw_p38, List.forall_mem_cons.mpr ⟨lw_p39, List.forall_mem_cons.mpr ⟨lw_p40, List.forall_mem_cons.mpr ⟨lw_p41, List.forall_mem_cons.mpr ⟨lw_p42, List.forall_mem_cons.mpr ⟨lw_p43, List.forall_mem_cons.mpr ⟨lw_p44, List.forall_mem_cons.mpr ⟨lw_p45, List.forall_mem_cons.mpr ⟨lw_p46, List.forall_mem_cons.mpr ⟨lw_p47, fun _ h => absurd h List.not_mem_nil⟩⟩⟩⟩⟩⟩⟩⟩⟩⟩⟩⟩⟩⟩⟩⟩
theorem lw_p48 : lw_okq (⟨"MindDutyModel", "isTraveller", "(I)Z"⟩, 48) := ⟨⟨by decide +kernel, by decide +kernel⟩, List.mem_of_getElem? (i := 696) (by decide +kernel), List.mem_of_getElem? (i := 967) (by decide +kernel), List.mem_of_getElem? (i := 968) (by decide +kernel)⟩
theorem lw_p49 : lw_okq (⟨"MindDutyModel", "owedFor", "(I)I"⟩, 48) := ⟨⟨by decide +kernel, by decide +kernel⟩, List.mem_of_getElem? (i := 696) (by decide +kernel), List.mem_of_getElem? (i := 971) (by decide +kernel), List.mem_of_getElem? (i := 972) (by decide +kernel)⟩
theorem lw_p50 : lw_okq (⟨"MindDutyModel", "owedWhere", "(II)I"⟩, 48) := ⟨⟨by decide +kernel, by decide +kernel⟩, List.mem_of_getElem? (i := 696) (by decide +kernel), List.mem_of_getElem? (i := 975) (by decide +kernel), List.mem_of_getElem? (i := 976) (by decide +kernel)⟩
theorem lw_p51 : lw_okq (⟨"MindDutyModel", "remember", "()V"⟩, 48) := ⟨⟨by decide +kernel, by decide +kernel⟩, List.mem_of_getElem? (i := 696) (by decide +kernel), List.mem_of_getElem? (i := 984) (by decide +kernel), List.mem_of_getElem? (i := 985) (by decide +kernel)⟩
theorem lw_p52 : lw_okq (⟨"MindDutyModel", "passNow", "(I)I"⟩, 48) := ⟨⟨by decide +kernel, by decide +kernel⟩, List.mem_of_getElem? (i := 696) (by decide +kernel), List.mem_of_getElem? (i := 988) (by decide +kernel), List.mem_of_getElem? (i := 989) (by decide +kernel)⟩
theorem lw_p53 : lw_okq (⟨"MindDutyModel", "roundNow", "(IZ)I"⟩, 48) := ⟨⟨by decide +kernel, by decide +kernel⟩, List.mem_of_getElem? (i := 696) (by decide +kernel), List.mem_of_getElem? (i := 1000) (by decide +kernel), List.mem_of_getElem? (i := 1001) (by decide +kernel)⟩
theorem lw_p54 : lw_okq (⟨"MindDutyModel", "quickest", "(II)I"⟩, 48) := ⟨⟨by decide +kernel, by decide +kernel⟩, List.mem_of_getElem? (i := 696) (by decide +kernel), List.mem_of_getElem? (i := 1008) (by decide +kernel), List.mem_of_getElem? (i := 1009) (by decide +kernel)⟩
theorem lw_p55 : lw_okq (⟨"MindDutyModel", "isSet", "(I)Z"⟩, 48) := ⟨⟨by decide +kernel, by decide +kernel⟩, List.mem_of_getElem? (i := 696) (by decide +kernel), List.mem_of_getElem? (i := 1020) (by decide +kernel), List.mem_of_getElem? (i := 1021) (by decide +kernel)⟩
theorem lw_p56 : lw_okq (⟨"MindDutyModel", "dayByDraws", "()V"⟩, 48) := ⟨⟨by decide +kernel, by decide +kernel⟩, List.mem_of_getElem? (i := 696) (by decide +kernel), List.mem_of_getElem? (i := 1033) (by decide +kernel), List.mem_of_getElem? (i := 1034) (by decide +kernel)⟩
theorem lw_p57 : lw_okq (⟨"MindDutyModel", "draw", "(I)I"⟩, 48) := ⟨⟨by decide +kernel, by decide +kernel⟩, List.mem_of_getElem? (i := 696) (by decide +kernel), List.mem_of_getElem? (i := 1037) (by decide +kernel), List.mem_of_getElem? (i := 1038) (by decide +kernel)⟩
theorem lw_p58 : lw_okq (⟨"MindDutyModel", "findMinutes", "(I)V"⟩, 48) := ⟨⟨by decide +kernel, by decide +kernel⟩, List.mem_of_getElem? (i := 696) (by decide +kernel), List.mem_of_getElem? (i := 1065) (by decide +kernel), List.mem_of_getElem? (i := 1066) (by decide +kernel)⟩
theorem lw_p59 : lw_okq (⟨"MindDutyModel", "minutesOf", "(II)I"⟩, 48) := ⟨⟨by decide +kernel, by decide +kernel⟩, List.mem_of_getElem? (i := 696) (by decide +kernel), List.mem_of_getElem? (i := 1073) (by decide +kernel), List.mem_of_getElem? (i := 1074) (by decide +kernel)⟩
theorem lw_p60 : lw_okq (⟨"MindDutyModel", "smallestSet", "()I"⟩, 48) := ⟨⟨by decide +kernel, by decide +kernel⟩, List.mem_of_getElem? (i := 696) (by decide +kernel), List.mem_of_getElem? (i := 1081) (by decide +kernel), List.mem_of_getElem? (i := 1082) (by decide +kernel)⟩
theorem lw_p61 : lw_okq (⟨"MindDutyModel", "needless", "()I"⟩, 48) := ⟨⟨by decide +kernel, by decide +kernel⟩, List.mem_of_getElem? (i := 696) (by decide +kernel), List.mem_of_getElem? (i := 1088) (by decide +kernel), List.mem_of_getElem? (i := 1089) (by decide +kernel)⟩
theorem lw_p62 : lw_okq (⟨"MindDutyModel", "couldBe", "(I)Z"⟩, 48) := ⟨⟨by decide +kernel, by decide +kernel⟩, List.mem_of_getElem? (i := 696) (by decide +kernel), List.mem_of_getElem? (i := 1125) (by decide +kernel), List.mem_of_getElem? (i := 1126) (by decide +kernel)⟩
def lw_privs_4 : List (MethodName × Nat) := [(⟨"MindDutyModel", "isTraveller", "(I)Z"⟩, 48), (⟨"MindDutyModel", "owedFor", "(I)I"⟩, 48), (⟨"MindDutyModel", "owedWhere", "(II)I"⟩, 48), (⟨"MindDutyModel", "remember", "()V"⟩, 48), (⟨"MindDutyModel", "passNow", "(I)I"⟩, 48), (⟨"MindDutyModel", "roundNow", "(IZ)I"⟩, 48), (⟨"MindDutyModel", "quickest", "(II)I"⟩, 48), (⟨"MindDutyModel", "isSet", "(I)Z"⟩, 48), (⟨"MindDutyModel", "dayByDraws", "()V"⟩, 48), (⟨"MindDutyModel", "draw", "(I)I"⟩, 48), (⟨"MindDutyModel", "findMinutes", "(I)V"⟩, 48), (⟨"MindDutyModel", "minutesOf", "(II)I"⟩, 48), (⟨"MindDutyModel", "smallestSet", "()I"⟩, 48), (⟨"MindDutyModel", "needless", "()I"⟩, 48), (⟨"MindDutyModel", "couldBe", "(I)Z"⟩, 48)]
theorem lw_r4 : ∀ q ∈ lw_privs_4, lw_okq q := List.forall_mem_cons.mpr ⟨lw_p48, List.forall_mem_cons.mpr ⟨lw_p49, List.forall_mem_cons.mpr ⟨lw_p50, List.forall_mem_cons.mpr ⟨lw_p51, List.forall_mem_cons.mpr ⟨lw_p52, List.forall_mem_cons.mpr ⟨lw_p53, List.forall_mem_cons.mpr ⟨lw_p54, List.forall_mem_cons.mpr ⟨lw_p55, List.forall_mem_cons.mpr ⟨lw_p56, List.forall_mem_cons.mpr ⟨lw_p57, List.forall_mem_cons.mpr ⟨lw_p58, List.forall_mem_cons.mpr ⟨lw_p59, List.forall_mem_cons.mpr ⟨lw_p60, List.forall_mem_cons.mpr ⟨lw_p61, List.forall_mem_cons.mpr ⟨lw_p62, fun _ h => absurd h List.not_mem_nil⟩⟩⟩⟩⟩⟩⟩⟩⟩⟩⟩⟩⟩⟩⟩
def lw_privs : List (MethodName × Nat) := lw_privs_1 ++ (lw_privs_2 ++ (lw_privs_3 ++ (lw_privs_4)))
def lw_tbl : List Cond := k2_sels lw_privs ++ tables_1
theorem lw_privs_ok : ∀ q ∈ lw_privs, lw_okq q := by
  show ∀ q ∈ lw_privs_1 ++ (lw_privs_2 ++ (lw_privs_3 ++ (lw_privs_4))), lw_okq q
  exact List.forall_mem_append.mpr ⟨lw_r1, List.forall_mem_append.mpr ⟨lw_r2, List.forall_mem_append.mpr ⟨lw_r3, lw_r4⟩⟩⟩
end
section
def RX0 : String := "MindDuty$Book"
def TX0 : u_T := fun k => match k with
  | 0 => ("MindDuty$Book", "ideas", "[I", true)
  | 1 => ("MindDuty$Book", "states", "[I", true)
  | _ => ("MindDuty$Book", "count", "I", false)
def tyX0 : Nat → FieldType := fun k => match k with
  | 0 => .array .int
  | 1 => .array .int
  | _ => .int
abbrev wsX00 : List Cond := u_ws RX0 TX0 3
theorem nmX0 : ∀ a, a < 3 → ∀ b, b < 3 → a ≠ b → (TX0 a).2.1 ≠ (TX0 b).2.1 := by decide +kernel
theorem tyX0_ok : ∀ k, k < 3 → parseFieldDescriptor (TX0 k).2.2.1 = some (tyX0 k) := by decide +kernel
abbrev cX0_init : ByteArray := prog_2_method_1_code
def yX0_init : MethodName := ⟨RX0, "<init>", "()V"⟩
abbrev cX0_append : ByteArray := prog_2_method_2_code
def yX0_append : MethodName := ⟨RX0, "append", "(II)Z"⟩
abbrev cX0_firstWrong : ByteArray := prog_2_method_3_code
def yX0_firstWrong : MethodName := ⟨RX0, "firstWrong", "(I)I"⟩
def RX1 : String := "MindDuty$Country"
def TX1 : u_T := fun k => match k with
  | 0 => ("MindDuty$Country", "there", "Z", false)
  | 1 => ("MindDuty$Country", "gate", "I", false)
  | 2 => ("MindDuty$Country", "risk", "I", false)
  | 3 => ("MindDuty$Country", "ideas", "I", false)
  | 4 => ("MindDuty$Country", "sizes", "[I", true)
  | 5 => ("MindDuty$Country", "joinings", "I", false)
  | 6 => ("MindDuty$Country", "joinOne", "[I", true)
  | 7 => ("MindDuty$Country", "joinOther", "[I", true)
  | 8 => ("MindDuty$Country", "joinTo", "[I", true)
  | 9 => ("MindDuty$Country", "talks", "I", false)
  | 10 => ("MindDuty$Country", "talkFrom", "[I", true)
  | 11 => ("MindDuty$Country", "talkTo", "[I", true)
  | 12 => ("MindDuty$Country", "talkTime", "[I", true)
  | 13 => ("MindDuty$Country", "registered", "I", false)
  | 14 => ("MindDuty$Country", "travellers", "I", false)
  | 15 => ("MindDuty$Country", "minds", "[I", true)
  | _ => ("MindDuty$Country", "fromSet", "[I", true)
def tyX1 : Nat → FieldType := fun k => match k with
  | 0 => .boolean
  | 1 => .int
  | 2 => .int
  | 3 => .int
  | 4 => .array .int
  | 5 => .int
  | 6 => .array .int
  | 7 => .array .int
  | 8 => .array .int
  | 9 => .int
  | 10 => .array .int
  | 11 => .array .int
  | 12 => .array .int
  | 13 => .int
  | 14 => .int
  | 15 => .array .int
  | _ => .array .int
abbrev wsX10 : List Cond := u_ws RX1 TX1 17
theorem nmX1 : ∀ a, a < 17 → ∀ b, b < 17 → a ≠ b → (TX1 a).2.1 ≠ (TX1 b).2.1 := by decide +kernel
theorem tyX1_ok : ∀ k, k < 17 → parseFieldDescriptor (TX1 k).2.2.1 = some (tyX1 k) := by decide +kernel
abbrev cX1_init : ByteArray := prog_3_method_1_code
def yX1_init : MethodName := ⟨RX1, "<init>", "()V"⟩
abbrev cX1_clear : ByteArray := prog_3_method_2_code
def yX1_clear : MethodName := ⟨RX1, "clear", "()V"⟩
abbrev cX1_isIdea : ByteArray := prog_3_method_3_code
def yX1_isIdea : MethodName := ⟨RX1, "isIdea", "(I)Z"⟩
abbrev cX1_isTraveller : ByteArray := prog_3_method_4_code
def yX1_isTraveller : MethodName := ⟨RX1, "isTraveller", "(I)Z"⟩
abbrev cX1_isSet : ByteArray := prog_3_method_5_code
def yX1_isSet : MethodName := ⟨RX1, "isSet", "(I)Z"⟩
abbrev cX1_findAllFrom : ByteArray := prog_3_method_6_code
def yX1_findAllFrom : MethodName := ⟨RX1, "findAllFrom", "()V"⟩
abbrev cX1_joined : ByteArray := prog_3_method_7_code
def yX1_joined : MethodName := ⟨RX1, "joined", "(I)I"⟩
abbrev cX1_allFrom : ByteArray := prog_3_method_8_code
def yX1_allFrom : MethodName := ⟨RX1, "allFrom", "(I)I"⟩
abbrev cX1_sizeOf : ByteArray := prog_3_method_9_code
def yX1_sizeOf : MethodName := ⟨RX1, "sizeOf", "(I)I"⟩
abbrev cX1_isStuck : ByteArray := prog_3_method_10_code
def yX1_isStuck : MethodName := ⟨RX1, "isStuck", "(I)Z"⟩
abbrev cX1_duty : ByteArray := prog_3_method_11_code
def yX1_duty : MethodName := ⟨RX1, "duty", "(II)I"⟩
abbrev cX1_quickest : ByteArray := prog_3_method_12_code
def yX1_quickest : MethodName := ⟨RX1, "quickest", "(II)I"⟩
abbrev cX1_findMinutes : ByteArray := prog_3_method_13_code
def yX1_findMinutes : MethodName := ⟨RX1, "findMinutes", "(I[I)V"⟩
def RX2 : String := "MindDuty$Images"
def TX2 : u_T := fun k => match k with
  | 0 => ("MindDuty$Images", "posts", "[LMindDuty$Post;", true)
  | 1 => ("MindDuty$Images", "lots", "[I", true)
  | _ => ("MindDuty$Images", "taken", "[Z", true)
def tyX2 : Nat → FieldType := fun k => match k with
  | 0 => .array (.object "MindDuty$Post")
  | 1 => .array .int
  | _ => .array .boolean
abbrev wsX20 : List Cond := u_ws RX2 TX2 3
theorem nmX2 : ∀ a, a < 3 → ∀ b, b < 3 → a ≠ b → (TX2 a).2.1 ≠ (TX2 b).2.1 := by decide +kernel
theorem tyX2_ok : ∀ k, k < 3 → parseFieldDescriptor (TX2 k).2.2.1 = some (tyX2 k) := by decide +kernel
abbrev cX2_init : ByteArray := prog_4_method_1_code
def yX2_init : MethodName := ⟨RX2, "<init>", "()V"⟩
abbrev cX2_take : ByteArray := prog_4_method_2_code
def yX2_take : MethodName := ⟨RX2, "take", "(ILMindDuty$Post;I)V"⟩
abbrev cX2_forget : ByteArray := prog_4_method_3_code
def yX2_forget : MethodName := ⟨RX2, "forget", "()V"⟩
def RX3 : String := "MindDuty$Past"
def TX3 : u_T := fun k => match k with
  | 0 => ("MindDuty$Past", "ring", "[LMindDuty$Post;", true)
  | 1 => ("MindDuty$Past", "next", "I", false)
  | _ => ("MindDuty$Past", "count", "I", false)
def tyX3 : Nat → FieldType := fun k => match k with
  | 0 => .array (.object "MindDuty$Post")
  | 1 => .int
  | _ => .int
abbrev wsX30 : List Cond := u_ws RX3 TX3 3
theorem nmX3 : ∀ a, a < 3 → ∀ b, b < 3 → a ≠ b → (TX3 a).2.1 ≠ (TX3 b).2.1 := by decide +kernel
theorem tyX3_ok : ∀ k, k < 3 → parseFieldDescriptor (TX3 k).2.2.1 = some (tyX3 k) := by decide +kernel
abbrev cX3_init : ByteArray := prog_5_method_1_code
def yX3_init : MethodName := ⟨RX3, "<init>", "()V"⟩
abbrev cX3_remember : ByteArray := prog_5_method_2_code
def yX3_remember : MethodName := ⟨RX3, "remember", "(LMindDuty$Post;)V"⟩
abbrev cX3_bringBack : ByteArray := prog_5_method_3_code
def yX3_bringBack : MethodName := ⟨RX3, "bringBack", "(LMindDuty$Post;)V"⟩
def RX4 : String := "MindDuty$Post"
def TX4 : u_T := fun k => match k with
  | 0 => ("MindDuty$Post", "minds", "[I", true)
  | 1 => ("MindDuty$Post", "registered", "I", false)
  | 2 => ("MindDuty$Post", "gone", "I", false)
  | 3 => ("MindDuty$Post", "paid", "I", false)
  | _ => ("MindDuty$Post", "minutes", "I", false)
def tyX4 : Nat → FieldType := fun k => match k with
  | 0 => .array .int
  | 1 => .int
  | 2 => .int
  | 3 => .int
  | _ => .int
abbrev wsX40 : List Cond := u_ws RX4 TX4 5
theorem nmX4 : ∀ a, a < 5 → ∀ b, b < 5 → a ≠ b → (TX4 a).2.1 ≠ (TX4 b).2.1 := by decide +kernel
theorem tyX4_ok : ∀ k, k < 5 → parseFieldDescriptor (TX4 k).2.2.1 = some (tyX4 k) := by decide +kernel
abbrev cX4_init : ByteArray := prog_6_method_1_code
def yX4_init : MethodName := ⟨RX4, "<init>", "()V"⟩
abbrev cX4_begin : ByteArray := prog_6_method_2_code
def yX4_begin : MethodName := ⟨RX4, "begin", "(LMindDuty$Country;)V"⟩
abbrev cX4_become : ByteArray := prog_6_method_3_code
def yX4_become : MethodName := ⟨RX4, "become", "(LMindDuty$Post;)V"⟩
abbrev cX4_mindOf : ByteArray := prog_6_method_4_code
def yX4_mindOf : MethodName := ⟨RX4, "mindOf", "(I)I"⟩
abbrev cX4_setMind : ByteArray := prog_6_method_5_code
def yX4_setMind : MethodName := ⟨RX4, "setMind", "(II)V"⟩
abbrev cX4_isGone : ByteArray := prog_6_method_6_code
def yX4_isGone : MethodName := ⟨RX4, "isGone", "(I)Z"⟩
abbrev cX4_comes : ByteArray := prog_6_method_7_code
def yX4_comes : MethodName := ⟨RX4, "comes", "(II)V"⟩
abbrev cX4_leaves : ByteArray := prog_6_method_8_code
def yX4_leaves : MethodName := ⟨RX4, "leaves", "(IZ)V"⟩
def RX5 : String := "MindDuty$Questions"
def TX5 : u_T := fun k => match k with
  | 0 => ("MindDuty$Questions", "sets", "[I", true)
  | 1 => ("MindDuty$Questions", "hows", "[I", true)
  | 2 => ("MindDuty$Questions", "answers", "[Z", true)
  | 3 => ("MindDuty$Questions", "having", "[I", true)
  | 4 => ("MindDuty$Questions", "count", "I", false)
  | 5 => ("MindDuty$Questions", "fitting", "I", false)
  | 6 => ("MindDuty$Questions", "least", "I", false)
  | _ => ("MindDuty$Questions", "sure", "I", false)
def tyX5 : Nat → FieldType := fun k => match k with
  | 0 => .array .int
  | 1 => .array .int
  | 2 => .array .boolean
  | 3 => .array .int
  | 4 => .int
  | 5 => .int
  | 6 => .int
  | _ => .int
abbrev wsX50 : List Cond := u_ws RX5 TX5 8
theorem nmX5 : ∀ a, a < 8 → ∀ b, b < 8 → a ≠ b → (TX5 a).2.1 ≠ (TX5 b).2.1 := by decide +kernel
theorem tyX5_ok : ∀ k, k < 8 → parseFieldDescriptor (TX5 k).2.2.1 = some (tyX5 k) := by decide +kernel
abbrev cX5_init : ByteArray := prog_7_method_1_code
def yX5_init : MethodName := ⟨RX5, "<init>", "()V"⟩
abbrev cX5_append : ByteArray := prog_7_method_2_code
def yX5_append : MethodName := ⟨RX5, "append", "(IIZ)Z"⟩
abbrev cX5_look : ByteArray := prog_7_method_3_code
def yX5_look : MethodName := ⟨RX5, "look", "(I)V"⟩
abbrev cX5_countIdeas : ByteArray := prog_7_method_4_code
def yX5_countIdeas : MethodName := ⟨RX5, "countIdeas", "(I)V"⟩
abbrev cX5_fits : ByteArray := prog_7_method_5_code
def yX5_fits : MethodName := ⟨RX5, "fits", "(I)Z"⟩
abbrev cX5_isSo : ByteArray := prog_7_method_6_code
def yX5_isSo : MethodName := ⟨RX5, "isSo", "(III)Z"⟩
abbrev cX5_bestIdea : ByteArray := prog_7_method_7_code
def yX5_bestIdea : MethodName := ⟨RX5, "bestIdea", "()I"⟩
def RX6 : String := "MindDuty$Reader"
def TX6 : u_T := fun k => match k with
  | 0 => ("MindDuty$Reader", "letters", "[I", true)
  | 1 => ("MindDuty$Reader", "length", "I", false)
  | 2 => ("MindDuty$Reader", "faultAt", "I", false)
  | 3 => ("MindDuty$Reader", "faultKind", "I", false)
  | 4 => ("MindDuty$Reader", "at", "I", false)
  | 5 => ("MindDuty$Reader", "numberAt", "I", false)
  | _ => ("MindDuty$Reader", "into", "LMindDuty$Country;", false)
def tyX6 : Nat → FieldType := fun k => match k with
  | 0 => .array .int
  | 1 => .int
  | 2 => .int
  | 3 => .int
  | 4 => .int
  | 5 => .int
  | _ => .object "MindDuty$Country"
abbrev wsX60 : List Cond := u_ws RX6 TX6 7
theorem nmX6 : ∀ a, a < 7 → ∀ b, b < 7 → a ≠ b → (TX6 a).2.1 ≠ (TX6 b).2.1 := by decide +kernel
theorem tyX6_ok : ∀ k, k < 7 → parseFieldDescriptor (TX6 k).2.2.1 = some (tyX6 k) := by decide +kernel
abbrev cX6_init : ByteArray := prog_8_method_1_code
def yX6_init : MethodName := ⟨RX6, "<init>", "()V"⟩
abbrev cX6_append : ByteArray := prog_8_method_2_code
def yX6_append : MethodName := ⟨RX6, "append", "(I)Z"⟩
abbrev cX6_exchange : ByteArray := prog_8_method_3_code
def yX6_exchange : MethodName := ⟨RX6, "exchange", "(LMindDuty$Country;)LMindDuty$Country;"⟩
abbrev cX6_read : ByteArray := prog_8_method_4_code
def yX6_read : MethodName := ⟨RX6, "read", "()Z"⟩
abbrev cX6_readClause : ByteArray := prog_8_method_5_code
def yX6_readClause : MethodName := ⟨RX6, "readClause", "()V"⟩
abbrev cX6_checkWord : ByteArray := prog_8_method_6_code
def yX6_checkWord : MethodName := ⟨RX6, "checkWord", "(I)V"⟩
abbrev cX6_readGate : ByteArray := prog_8_method_7_code
def yX6_readGate : MethodName := ⟨RX6, "readGate", "()V"⟩
abbrev cX6_readIdea : ByteArray := prog_8_method_8_code
def yX6_readIdea : MethodName := ⟨RX6, "readIdea", "()V"⟩
abbrev cX6_readJoining : ByteArray := prog_8_method_9_code
def yX6_readJoining : MethodName := ⟨RX6, "readJoining", "()V"⟩
abbrev cX6_readTalk : ByteArray := prog_8_method_10_code
def yX6_readTalk : MethodName := ⟨RX6, "readTalk", "()V"⟩
abbrev cX6_readRegistered : ByteArray := prog_8_method_11_code
def yX6_readRegistered : MethodName := ⟨RX6, "readRegistered", "()V"⟩
abbrev cX6_readTraveller : ByteArray := prog_8_method_12_code
def yX6_readTraveller : MethodName := ⟨RX6, "readTraveller", "()V"⟩
abbrev cX6_readEnd : ByteArray := prog_8_method_13_code
def yX6_readEnd : MethodName := ⟨RX6, "readEnd", "()V"⟩
abbrev cX6_readToldIdea : ByteArray := prog_8_method_14_code
def yX6_readToldIdea : MethodName := ⟨RX6, "readToldIdea", "()I"⟩
abbrev cX6_readNumber : ByteArray := prog_8_method_15_code
def yX6_readNumber : MethodName := ⟨RX6, "readNumber", "(II)I"⟩
abbrev cX6_isFigure : ByteArray := prog_8_method_16_code
def yX6_isFigure : MethodName := ⟨RX6, "isFigure", "(I)Z"⟩
abbrev cX6_letterHere : ByteArray := prog_8_method_17_code
def yX6_letterHere : MethodName := ⟨RX6, "letterHere", "()I"⟩
abbrev cX6_skipBlanks : ByteArray := prog_8_method_18_code
def yX6_skipBlanks : MethodName := ⟨RX6, "skipBlanks", "()V"⟩
abbrev cX6_findFault : ByteArray := prog_8_method_19_code
def yX6_findFault : MethodName := ⟨RX6, "findFault", "(II)V"⟩
def RX7 : String := "MindDuty"
def TX7 : u_T := fun k => match k with
  | 0 => ("MindDuty", "reader", "LMindDuty$Reader;", true)
  | 1 => ("MindDuty", "post", "LMindDuty$Post;", true)
  | 2 => ("MindDuty", "past", "LMindDuty$Past;", true)
  | 3 => ("MindDuty", "images", "LMindDuty$Images;", true)
  | 4 => ("MindDuty", "questions", "LMindDuty$Questions;", true)
  | 5 => ("MindDuty", "book", "LMindDuty$Book;", true)
  | 6 => ("MindDuty", "minutesLeft", "[I", true)
  | 7 => ("MindDuty", "country", "LMindDuty$Country;", false)
  | _ => ("MindDuty", "lot", "I", false)
def tyX7 : Nat → FieldType := fun k => match k with
  | 0 => .object "MindDuty$Reader"
  | 1 => .object "MindDuty$Post"
  | 2 => .object "MindDuty$Past"
  | 3 => .object "MindDuty$Images"
  | 4 => .object "MindDuty$Questions"
  | 5 => .object "MindDuty$Book"
  | 6 => .array .int
  | 7 => .object "MindDuty$Country"
  | _ => .int
abbrev wsX70 : List Cond := u_ws RX7 TX7 9
theorem nmX7 : ∀ a, a < 9 → ∀ b, b < 9 → a ≠ b → (TX7 a).2.1 ≠ (TX7 b).2.1 := by decide +kernel
theorem tyX7_ok : ∀ k, k < 9 → parseFieldDescriptor (TX7 k).2.2.1 = some (tyX7 k) := by decide +kernel
abbrev cX7_init : ByteArray := prog_1_method_1_code
def yX7_init : MethodName := ⟨RX7, "<init>", "()V"⟩
abbrev cX7_feed : ByteArray := prog_1_method_2_code
def yX7_feed : MethodName := ⟨RX7, "feed", "(I)I"⟩
abbrev cX7_thePass : ByteArray := prog_1_method_3_code
def yX7_thePass : MethodName := ⟨RX7, "thePass", "()I"⟩
abbrev cX7_fault : ByteArray := prog_1_method_4_code
def yX7_fault : MethodName := ⟨RX7, "fault", "()I"⟩
abbrev cX7_told : ByteArray := prog_1_method_5_code
def yX7_told : MethodName := ⟨RX7, "told", "(I)I"⟩
abbrev cX7_size : ByteArray := prog_1_method_6_code
def yX7_size : MethodName := ⟨RX7, "size", "(I)I"⟩
abbrev cX7_traveller : ByteArray := prog_1_method_7_code
def yX7_traveller : MethodName := ⟨RX7, "traveller", "(II)I"⟩
abbrev cX7_pass : ByteArray := prog_1_method_8_code
def yX7_pass : MethodName := ⟨RX7, "pass", "(I)I"⟩
abbrev cX7_goRound : ByteArray := prog_1_method_9_code
def yX7_goRound : MethodName := ⟨RX7, "goRound", "(IZ)I"⟩
abbrev cX7_talk : ByteArray := prog_1_method_10_code
def yX7_talk : MethodName := ⟨RX7, "talk", "(III)I"⟩
abbrev cX7_come : ByteArray := prog_1_method_11_code
def yX7_come : MethodName := ⟨RX7, "come", "(II)I"⟩
abbrev cX7_register : ByteArray := prog_1_method_12_code
def yX7_register : MethodName := ⟨RX7, "register", "(IZ)I"⟩
abbrev cX7_drift : ByteArray := prog_1_method_13_code
def yX7_drift : MethodName := ⟨RX7, "drift", "(I)I"⟩
abbrev cX7_undo : ByteArray := prog_1_method_14_code
def yX7_undo : MethodName := ⟨RX7, "undo", "()I"⟩
abbrev cX7_follows : ByteArray := prog_1_method_15_code
def yX7_follows : MethodName := ⟨RX7, "follows", "(I)I"⟩
abbrev cX7_owed : ByteArray := prog_1_method_16_code
def yX7_owed : MethodName := ⟨RX7, "owed", "(I)I"⟩
abbrev cX7_parts : ByteArray := prog_1_method_17_code
def yX7_parts : MethodName := ⟨RX7, "parts", "(II)I"⟩
abbrev cX7_talkDown : ByteArray := prog_1_method_18_code
def yX7_talkDown : MethodName := ⟨RX7, "talkDown", "(III)I"⟩
abbrev cX7_soonest : ByteArray := prog_1_method_19_code
def yX7_soonest : MethodName := ⟨RX7, "soonest", "(I)I"⟩
abbrev cX7_smallest : ByteArray := prog_1_method_20_code
def yX7_smallest : MethodName := ⟨RX7, "smallest", "(I)I"⟩
abbrev cX7_better : ByteArray := prog_1_method_21_code
def yX7_better : MethodName := ⟨RX7, "better", "(II)I"⟩
abbrev cX7_gains : ByteArray := prog_1_method_22_code
def yX7_gains : MethodName := ⟨RX7, "gains", "(II)I"⟩
abbrev cX7_free : ByteArray := prog_1_method_23_code
def yX7_free : MethodName := ⟨RX7, "free", "()I"⟩
abbrev cX7_share : ByteArray := prog_1_method_24_code
def yX7_share : MethodName := ⟨RX7, "share", "(I)I"⟩
abbrev cX7_glacier : ByteArray := prog_1_method_25_code
def yX7_glacier : MethodName := ⟨RX7, "glacier", "(I)I"⟩
abbrev cX7_ask : ByteArray := prog_1_method_26_code
def yX7_ask : MethodName := ⟨RX7, "ask", "(IIZ)I"⟩
abbrev cX7_minds : ByteArray := prog_1_method_27_code
def yX7_minds : MethodName := ⟨RX7, "minds", "(I)I"⟩
abbrev cX7_askNext : ByteArray := prog_1_method_28_code
def yX7_askNext : MethodName := ⟨RX7, "askNext", "()I"⟩
abbrev cX7_write : ByteArray := prog_1_method_29_code
def yX7_write : MethodName := ⟨RX7, "write", "(II)I"⟩
abbrev cX7_tear : ByteArray := prog_1_method_30_code
def yX7_tear : MethodName := ⟨RX7, "tear", "()I"⟩
abbrev cX7_judge : ByteArray := prog_1_method_31_code
def yX7_judge : MethodName := ⟨RX7, "judge", "()I"⟩
abbrev cX7_seed : ByteArray := prog_1_method_32_code
def yX7_seed : MethodName := ⟨RX7, "seed", "(I)I"⟩
abbrev cX7_keep : ByteArray := prog_1_method_33_code
def yX7_keep : MethodName := ⟨RX7, "keep", "(I)I"⟩
abbrev cX7_goBack : ByteArray := prog_1_method_34_code
def yX7_goBack : MethodName := ⟨RX7, "goBack", "(I)I"⟩
abbrev cX7_inTheCountry : ByteArray := prog_1_method_35_code
def yX7_inTheCountry : MethodName := ⟨RX7, "inTheCountry", "()I"⟩
abbrev cX7_dutyOf : ByteArray := prog_1_method_36_code
def yX7_dutyOf : MethodName := ⟨RX7, "dutyOf", "(I)I"⟩
abbrev cX7_stuckOnes : ByteArray := prog_1_method_37_code
def yX7_stuckOnes : MethodName := ⟨RX7, "stuckOnes", "()I"⟩
abbrev cX7_letPass : ByteArray := prog_1_method_38_code
def yX7_letPass : MethodName := ⟨RX7, "letPass", "(I)I"⟩
abbrev cX7_driftOneDay : ByteArray := prog_1_method_39_code
def yX7_driftOneDay : MethodName := ⟨RX7, "driftOneDay", "()V"⟩
abbrev cX7_draw : ByteArray := prog_1_method_40_code
def yX7_draw : MethodName := ⟨RX7, "draw", "(I)I"⟩
abbrev cX7_cheapestParts : ByteArray := prog_1_method_41_code
def yX7_cheapestParts : MethodName := ⟨RX7, "cheapestParts", "(I)I"⟩
abbrev cX7_nextOnTheWay : ByteArray := prog_1_method_42_code
def yX7_nextOnTheWay : MethodName := ⟨RX7, "nextOnTheWay", "(I)I"⟩
abbrev cX7_fewestMinutes : ByteArray := prog_1_method_43_code
def yX7_fewestMinutes : MethodName := ⟨RX7, "fewestMinutes", "(LMindDuty$Country;II)I"⟩
abbrev cX7_afterTalk : ByteArray := prog_1_method_44_code
def yX7_afterTalk : MethodName := ⟨RX7, "afterTalk", "(III)I"⟩
abbrev cX7_smallestRegister : ByteArray := prog_1_method_45_code
def yX7_smallestRegister : MethodName := ⟨RX7, "smallestRegister", "()I"⟩
abbrev cX7_needless : ByteArray := prog_1_method_46_code
def yX7_needless : MethodName := ⟨RX7, "needless", "()I"⟩
def RX8 : String := "MindDutyModel"
def TX8 : u_T := fun k => match k with
  | 0 => ("MindDutyModel", "most", "I", false)
  | 1 => ("MindDutyModel", "taken", "I", false)
  | 2 => ("MindDutyModel", "ideas", "I", false)
  | 3 => ("MindDutyModel", "size", "[I", true)
  | 4 => ("MindDutyModel", "joins", "I", false)
  | 5 => ("MindDutyModel", "joinOne", "[I", true)
  | 6 => ("MindDutyModel", "joinOther", "[I", true)
  | 7 => ("MindDutyModel", "joinTo", "[I", true)
  | 8 => ("MindDutyModel", "talks", "I", false)
  | 9 => ("MindDutyModel", "talkFrom", "[I", true)
  | 10 => ("MindDutyModel", "talkTo", "[I", true)
  | 11 => ("MindDutyModel", "talkTakes", "[I", true)
  | 12 => ("MindDutyModel", "travellers", "I", false)
  | 13 => ("MindDutyModel", "now", "[I", true)
  | 14 => ("MindDutyModel", "seed", "I", false)
  | 15 => ("MindDutyModel", "text", "[I", true)
  | 16 => ("MindDutyModel", "texted", "I", false)
  | 17 => ("MindDutyModel", "faultPlace", "I", false)
  | 18 => ("MindDutyModel", "at0", "I", false)
  | 19 => ("MindDutyModel", "number", "I", false)
  | 20 => ("MindDutyModel", "numberAt", "I", false)
  | 21 => ("MindDutyModel", "readGate", "[I", true)
  | 22 => ("MindDutyModel", "readIdeas", "I", false)
  | 23 => ("MindDutyModel", "readSize", "[I", true)
  | 24 => ("MindDutyModel", "readJoins", "I", false)
  | 25 => ("MindDutyModel", "readJoinOne", "[I", true)
  | 26 => ("MindDutyModel", "readJoinOther", "[I", true)
  | 27 => ("MindDutyModel", "readJoinTo", "[I", true)
  | 28 => ("MindDutyModel", "readTalks", "I", false)
  | 29 => ("MindDutyModel", "readTalkFrom", "[I", true)
  | 30 => ("MindDutyModel", "readTalkTo", "[I", true)
  | 31 => ("MindDutyModel", "readTalkTakes", "[I", true)
  | 32 => ("MindDutyModel", "readRegistered", "I", false)
  | 33 => ("MindDutyModel", "readTravellers", "I", false)
  | 34 => ("MindDutyModel", "readHas", "[I", true)
  | 35 => ("MindDutyModel", "undos", "I", false)
  | 36 => ("MindDutyModel", "past", "[I", true)
  | 37 => ("MindDutyModel", "minutes", "[I", true)
  | 38 => ("MindDutyModel", "asked", "I", false)
  | 39 => ("MindDutyModel", "askedSet", "[I", true)
  | 40 => ("MindDutyModel", "askedHow", "[I", true)
  | 41 => ("MindDutyModel", "askedYes", "[Z", true)
  | 42 => ("MindDutyModel", "within", "[I", true)
  | 43 => ("MindDutyModel", "booked", "I", false)
  | 44 => ("MindDutyModel", "bookWhat", "[I", true)
  | 45 => ("MindDutyModel", "bookIs", "[I", true)
  | 46 => ("MindDutyModel", "images", "[I", true)
  | _ => ("MindDutyModel", "isKept", "[Z", true)
def tyX8 : Nat → FieldType := fun k => match k with
  | 0 => .int
  | 1 => .int
  | 2 => .int
  | 3 => .array .int
  | 4 => .int
  | 5 => .array .int
  | 6 => .array .int
  | 7 => .array .int
  | 8 => .int
  | 9 => .array .int
  | 10 => .array .int
  | 11 => .array .int
  | 12 => .int
  | 13 => .array .int
  | 14 => .int
  | 15 => .array .int
  | 16 => .int
  | 17 => .int
  | 18 => .int
  | 19 => .int
  | 20 => .int
  | 21 => .array .int
  | 22 => .int
  | 23 => .array .int
  | 24 => .int
  | 25 => .array .int
  | 26 => .array .int
  | 27 => .array .int
  | 28 => .int
  | 29 => .array .int
  | 30 => .array .int
  | 31 => .array .int
  | 32 => .int
  | 33 => .int
  | 34 => .array .int
  | 35 => .int
  | 36 => .array .int
  | 37 => .array .int
  | 38 => .int
  | 39 => .array .int
  | 40 => .array .int
  | 41 => .array .boolean
  | 42 => .array .int
  | 43 => .int
  | 44 => .array .int
  | 45 => .array .int
  | 46 => .array .int
  | _ => .array .boolean
abbrev wsX80 : List Cond := u_ws RX8 TX8 48
theorem nmX8 : ∀ a, a < 48 → ∀ b, b < 48 → a ≠ b → (TX8 a).2.1 ≠ (TX8 b).2.1 := by decide +kernel
theorem tyX8_ok : ∀ k, k < 48 → parseFieldDescriptor (TX8 k).2.2.1 = some (tyX8 k) := by decide +kernel
abbrev cX8_init : ByteArray := prog_10_method_1_code
def yX8_init : MethodName := ⟨RX8, "<init>", "()V"⟩
abbrev cX8_in : ByteArray := prog_10_method_3_code
def yX8_in : MethodName := ⟨RX8, "in", "(JJJ)Z"⟩
abbrev cX8_has : ByteArray := prog_10_method_4_code
def yX8_has : MethodName := ⟨RX8, "has", "(II)Z"⟩
abbrev cX8_bits : ByteArray := prog_10_method_5_code
def yX8_bits : MethodName := ⟨RX8, "bits", "(I)I"⟩
abbrev cX8_atMost : ByteArray := prog_10_method_6_code
def yX8_atMost : MethodName := ⟨RX8, "atMost", "(I)I"⟩
abbrev cX8_isIdea : ByteArray := prog_10_method_7_code
def yX8_isIdea : MethodName := ⟨RX8, "isIdea", "(I)Z"⟩
abbrev cX8_isSet : ByteArray := prog_10_method_8_code
def yX8_isSet : MethodName := ⟨RX8, "isSet", "(I)Z"⟩
abbrev cX8_isTraveller : ByteArray := prog_10_method_9_code
def yX8_isTraveller : MethodName := ⟨RX8, "isTraveller", "(I)Z"⟩
abbrev cX8_feed : ByteArray := prog_10_method_10_code
def yX8_feed : MethodName := ⟨RX8, "feed", "(I)I"⟩
abbrev cX8_here : ByteArray := prog_10_method_11_code
def yX8_here : MethodName := ⟨RX8, "here", "()I"⟩
abbrev cX8_fails : ByteArray := prog_10_method_12_code
def yX8_fails : MethodName := ⟨RX8, "fails", "(II)I"⟩
abbrev cX8_takeNumber : ByteArray := prog_10_method_13_code
def yX8_takeNumber : MethodName := ⟨RX8, "takeNumber", "(II)I"⟩
abbrev cX8_into : ByteArray := prog_10_method_14_code
def yX8_into : MethodName := ⟨RX8, "into", "([IIII)I"⟩
abbrev cX8_takeGate : ByteArray := prog_10_method_15_code
def yX8_takeGate : MethodName := ⟨RX8, "takeGate", "()I"⟩
abbrev cX8_takeIdea : ByteArray := prog_10_method_16_code
def yX8_takeIdea : MethodName := ⟨RX8, "takeIdea", "()I"⟩
abbrev cX8_takeJoin : ByteArray := prog_10_method_17_code
def yX8_takeJoin : MethodName := ⟨RX8, "takeJoin", "()I"⟩
abbrev cX8_takeTalk : ByteArray := prog_10_method_18_code
def yX8_takeTalk : MethodName := ⟨RX8, "takeTalk", "()I"⟩
abbrev cX8_takeRegistered : ByteArray := prog_10_method_19_code
def yX8_takeRegistered : MethodName := ⟨RX8, "takeRegistered", "()I"⟩
abbrev cX8_takeTraveller : ByteArray := prog_10_method_20_code
def yX8_takeTraveller : MethodName := ⟨RX8, "takeTraveller", "()I"⟩
abbrev cX8_whichClause : ByteArray := prog_10_method_21_code
def yX8_whichClause : MethodName := ⟨RX8, "whichClause", "(I)I"⟩
abbrev cX8_isFull : ByteArray := prog_10_method_22_code
def yX8_isFull : MethodName := ⟨RX8, "isFull", "(I)Z"⟩
abbrev cX8_takeBody : ByteArray := prog_10_method_23_code
def yX8_takeBody : MethodName := ⟨RX8, "takeBody", "(I)I"⟩
abbrev cX8_takeClause : ByteArray := prog_10_method_24_code
def yX8_takeClause : MethodName := ⟨RX8, "takeClause", "()I"⟩
abbrev cX8_takeRead : ByteArray := prog_10_method_25_code
def yX8_takeRead : MethodName := ⟨RX8, "takeRead", "()V"⟩
abbrev cX8_thePass : ByteArray := prog_10_method_26_code
def yX8_thePass : MethodName := ⟨RX8, "thePass", "()I"⟩
abbrev cX8_fault : ByteArray := prog_10_method_27_code
def yX8_fault : MethodName := ⟨RX8, "fault", "()I"⟩
abbrev cX8_close : ByteArray := prog_10_method_28_code
def yX8_close : MethodName := ⟨RX8, "close", "(I)I"⟩
abbrev cX8_sizeOf : ByteArray := prog_10_method_29_code
def yX8_sizeOf : MethodName := ⟨RX8, "sizeOf", "(I)I"⟩
abbrev cX8_owedWhere : ByteArray := prog_10_method_30_code
def yX8_owedWhere : MethodName := ⟨RX8, "owedWhere", "(II)I"⟩
abbrev cX8_owedFor : ByteArray := prog_10_method_31_code
def yX8_owedFor : MethodName := ⟨RX8, "owedFor", "(I)I"⟩
abbrev cX8_isGone : ByteArray := prog_10_method_32_code
def yX8_isGone : MethodName := ⟨RX8, "isGone", "(I)Z"⟩
abbrev cX8_isStuck : ByteArray := prog_10_method_33_code
def yX8_isStuck : MethodName := ⟨RX8, "isStuck", "(I)Z"⟩
abbrev cX8_stuckOnes : ByteArray := prog_10_method_34_code
def yX8_stuckOnes : MethodName := ⟨RX8, "stuckOnes", "()I"⟩
abbrev cX8_told : ByteArray := prog_10_method_35_code
def yX8_told : MethodName := ⟨RX8, "told", "(I)I"⟩
abbrev cX8_size : ByteArray := prog_10_method_36_code
def yX8_size : MethodName := ⟨RX8, "size", "(I)I"⟩
abbrev cX8_traveller : ByteArray := prog_10_method_37_code
def yX8_traveller : MethodName := ⟨RX8, "traveller", "(II)I"⟩
abbrev cX8_remember : ByteArray := prog_10_method_38_code
def yX8_remember : MethodName := ⟨RX8, "remember", "()V"⟩
abbrev cX8_passNow : ByteArray := prog_10_method_39_code
def yX8_passNow : MethodName := ⟨RX8, "passNow", "(I)I"⟩
abbrev cX8_pass : ByteArray := prog_10_method_40_code
def yX8_pass : MethodName := ⟨RX8, "pass", "(I)I"⟩
abbrev cX8_roundNow : ByteArray := prog_10_method_41_code
def yX8_roundNow : MethodName := ⟨RX8, "roundNow", "(IZ)I"⟩
abbrev cX8_goRound : ByteArray := prog_10_method_42_code
def yX8_goRound : MethodName := ⟨RX8, "goRound", "(IZ)I"⟩
abbrev cX8_quickest : ByteArray := prog_10_method_43_code
def yX8_quickest : MethodName := ⟨RX8, "quickest", "(II)I"⟩
abbrev cX8_talked : ByteArray := prog_10_method_44_code
def yX8_talked : MethodName := ⟨RX8, "talked", "(III)I"⟩
abbrev cX8_talk : ByteArray := prog_10_method_45_code
def yX8_talk : MethodName := ⟨RX8, "talk", "(III)I"⟩
abbrev cX8_come : ByteArray := prog_10_method_46_code
def yX8_come : MethodName := ⟨RX8, "come", "(II)I"⟩
abbrev cX8_register : ByteArray := prog_10_method_47_code
def yX8_register : MethodName := ⟨RX8, "register", "(IZ)I"⟩
abbrev cX8_draw : ByteArray := prog_10_method_48_code
def yX8_draw : MethodName := ⟨RX8, "draw", "(I)I"⟩
abbrev cX8_dayByDraws : ByteArray := prog_10_method_49_code
def yX8_dayByDraws : MethodName := ⟨RX8, "dayByDraws", "()V"⟩
abbrev cX8_drift : ByteArray := prog_10_method_50_code
def yX8_drift : MethodName := ⟨RX8, "drift", "(I)I"⟩
abbrev cX8_undo : ByteArray := prog_10_method_51_code
def yX8_undo : MethodName := ⟨RX8, "undo", "()I"⟩
abbrev cX8_follows : ByteArray := prog_10_method_52_code
def yX8_follows : MethodName := ⟨RX8, "follows", "(I)I"⟩
abbrev cX8_owed : ByteArray := prog_10_method_53_code
def yX8_owed : MethodName := ⟨RX8, "owed", "(I)I"⟩
abbrev cX8_parts : ByteArray := prog_10_method_54_code
def yX8_parts : MethodName := ⟨RX8, "parts", "(II)I"⟩
abbrev cX8_findMinutes : ByteArray := prog_10_method_55_code
def yX8_findMinutes : MethodName := ⟨RX8, "findMinutes", "(I)V"⟩
abbrev cX8_talkDown : ByteArray := prog_10_method_56_code
def yX8_talkDown : MethodName := ⟨RX8, "talkDown", "(III)I"⟩
abbrev cX8_minutesOf : ByteArray := prog_10_method_57_code
def yX8_minutesOf : MethodName := ⟨RX8, "minutesOf", "(II)I"⟩
abbrev cX8_soonest : ByteArray := prog_10_method_58_code
def yX8_soonest : MethodName := ⟨RX8, "soonest", "(I)I"⟩
abbrev cX8_smallestSet : ByteArray := prog_10_method_59_code
def yX8_smallestSet : MethodName := ⟨RX8, "smallestSet", "()I"⟩
abbrev cX8_needless : ByteArray := prog_10_method_60_code
def yX8_needless : MethodName := ⟨RX8, "needless", "()I"⟩
abbrev cX8_smallest : ByteArray := prog_10_method_61_code
def yX8_smallest : MethodName := ⟨RX8, "smallest", "(I)I"⟩
abbrev cX8_better : ByteArray := prog_10_method_62_code
def yX8_better : MethodName := ⟨RX8, "better", "(II)I"⟩
abbrev cX8_gains : ByteArray := prog_10_method_63_code
def yX8_gains : MethodName := ⟨RX8, "gains", "(II)I"⟩
abbrev cX8_free : ByteArray := prog_10_method_64_code
def yX8_free : MethodName := ⟨RX8, "free", "()I"⟩
abbrev cX8_share : ByteArray := prog_10_method_65_code
def yX8_share : MethodName := ⟨RX8, "share", "(I)I"⟩
abbrev cX8_glacier : ByteArray := prog_10_method_66_code
def yX8_glacier : MethodName := ⟨RX8, "glacier", "(I)I"⟩
abbrev cX8_ask : ByteArray := prog_10_method_67_code
def yX8_ask : MethodName := ⟨RX8, "ask", "(IIZ)I"⟩
abbrev cX8_answers : ByteArray := prog_10_method_68_code
def yX8_answers : MethodName := ⟨RX8, "answers", "(III)Z"⟩
abbrev cX8_couldBe : ByteArray := prog_10_method_69_code
def yX8_couldBe : MethodName := ⟨RX8, "couldBe", "(I)Z"⟩
abbrev cX8_minds : ByteArray := prog_10_method_70_code
def yX8_minds : MethodName := ⟨RX8, "minds", "(I)I"⟩
abbrev cX8_askNext : ByteArray := prog_10_method_71_code
def yX8_askNext : MethodName := ⟨RX8, "askNext", "()I"⟩
abbrev cX8_write : ByteArray := prog_10_method_72_code
def yX8_write : MethodName := ⟨RX8, "write", "(II)I"⟩
abbrev cX8_tear : ByteArray := prog_10_method_73_code
def yX8_tear : MethodName := ⟨RX8, "tear", "()I"⟩
abbrev cX8_judge : ByteArray := prog_10_method_74_code
def yX8_judge : MethodName := ⟨RX8, "judge", "()I"⟩
abbrev cX8_seed : ByteArray := prog_10_method_75_code
def yX8_seed : MethodName := ⟨RX8, "seed", "(I)I"⟩
abbrev cX8_keep : ByteArray := prog_10_method_76_code
def yX8_keep : MethodName := ⟨RX8, "keep", "(I)I"⟩
abbrev cX8_goBack : ByteArray := prog_10_method_77_code
def yX8_goBack : MethodName := ⟨RX8, "goBack", "(I)I"⟩
def RJ6 : String := "java/lang/Integer"
def TJ6 : u_T := fun k => match k with
  | _ => ("", "", "", false)
def tyJ6 : Nat → FieldType := fun k => match k with
  | _ => .int
abbrev wsJ60 : List Cond := u_ws RJ6 TJ6 0
theorem nmJ6 : ∀ a, a < 0 → ∀ b, b < 0 → a ≠ b → (TJ6 a).2.1 ≠ (TJ6 b).2.1 := by decide +kernel
theorem tyJ6_ok : ∀ k, k < 0 → parseFieldDescriptor (TJ6 k).2.2.1 = some (tyJ6 k) := by decide +kernel
abbrev cJ6_bitCount_0f7a4 : ByteArray := prog_11_method_49_code
def yJ6_bitCount_0f7a4 : MethodName := ⟨RJ6, "bitCount", "(I)I"⟩
def RJ9 : String := "java/lang/Math"
def TJ9 : u_T := fun k => match k with
  | _ => ("", "", "", false)
def tyJ9 : Nat → FieldType := fun k => match k with
  | _ => .int
abbrev wsJ90 : List Cond := u_ws RJ9 TJ9 0
theorem nmJ9 : ∀ a, a < 0 → ∀ b, b < 0 → a ≠ b → (TJ9 a).2.1 ≠ (TJ9 b).2.1 := by decide +kernel
theorem tyJ9_ok : ∀ k, k < 0 → parseFieldDescriptor (TJ9 k).2.2.1 = some (tyJ9 k) := by decide +kernel
abbrev cJ9_max_7cf53 : ByteArray := prog_12_method_65_code
def yJ9_max_7cf53 : MethodName := ⟨RJ9, "max", "(II)I"⟩
abbrev cJ9_min_7cf53 : ByteArray := prog_12_method_69_code
def yJ9_min_7cf53 : MethodName := ⟨RJ9, "min", "(II)I"⟩
def RL : String := "MindDutyLaw"
abbrev cL_law : ByteArray := code
def yL_law : MethodName := ⟨RL, "law", "([I)Z"⟩
abbrev vwCl : List vw_C := [(RX0, TX0, 3), (RX1, TX1, 17), (RX2, TX2, 3), (RX3, TX3, 3), (RX4, TX4, 5), (RX5, TX5, 8), (RX6, TX6, 7), (RX7, TX7, 9), (RX8, TX8, 48)]
theorem inX0 : ∀ w ∈ u_ws RX0 TX0 3, w ∈ lw_tbl := by decide +kernel
theorem inX1 : ∀ w ∈ u_ws RX1 TX1 17, w ∈ lw_tbl := by decide +kernel
theorem inX2 : ∀ w ∈ u_ws RX2 TX2 3, w ∈ lw_tbl := by decide +kernel
theorem inX3 : ∀ w ∈ u_ws RX3 TX3 3, w ∈ lw_tbl := by decide +kernel
theorem inX4 : ∀ w ∈ u_ws RX4 TX4 5, w ∈ lw_tbl := by decide +kernel
theorem inX5 : ∀ w ∈ u_ws RX5 TX5 8, w ∈ lw_tbl := by decide +kernel
theorem inX6 : ∀ w ∈ u_ws RX6 TX6 7, w ∈ lw_tbl := by decide +kernel
theorem inX7 : ∀ w ∈ u_ws RX7 TX7 9, w ∈ lw_tbl := by decide +kernel
theorem inX8 : ∀ w ∈ u_ws RX8 TX8 48, w ∈ lw_tbl := by decide +kernel
end
section
/-! the sealed layer: a plain memory, one judgement, a rule an instruction -/
/-- the tables' words that stay as they are -/
def lw_ok : List Cond := lw_tbl.filter goodWord
theorem lw_ok_of {w : Cond} (i : Nat) (h : lw_tbl[i]? = some w) (g : goodWord w = true) : w ∈ lw_ok := List.mem_filter.mpr ⟨List.mem_of_getElem? h, g⟩
theorem lw_ok_in {w : Cond} (h : w ∈ lw_ok) : w ∈ lw_tbl := (List.mem_filter.mp h).1
abbrev Mm : Type := Nat → Nat → Int32
/-- a cell's shape: an object (class, a mark a field: 0 a number, 1 that cell for ever, 2 one of the two countries, 3 null); an array (0 ints, 1 booleans, 2 posts; length; first cell; how many are set) -/
abbrev Sh : Type := (Nat × List (Nat × Nat)) ⊕ (Nat × Nat × Nat × Nat)
abbrev Kx : Type := Launch × va_G × (ClassId × ClassId × ClassId) × Nat
abbrev Yx : Type := Program × Env × Room × State × MethodId × Array Value × List Frame × Method × Code × (State → Prop) × Nat
def md_up (h : Mm) (k j : Nat) (v : Int32) : Mm := fun a => if a = k then upd (h k) j v else h a
def md_dx (v : Int32) : Nat := if v = 0 then 3 else 74
def md_ex (c : Nat) : Int32 := if c = 3 then 0 else 1
def md_in (i : Int32) (n : Nat) : Bool := !(decide (i < 0)) && decide (i.toNatClampNeg < n)
def md_bi (v : Bool) : Int32 := if v = true then 1 else 0
def md_bd {α β : Type} (F : Option α) (k : α → Option β) : Option β := F.bind k
def md_b2 {α γ β : Type} (F : Option (α × γ)) (k : α → γ → Option β) : Option β := F.bind (fun q => k q.1 q.2)
def md_b3 {α γ δ β : Type} (F : Option (α × γ × δ)) (k : α → γ → δ → Option β) : Option β := F.bind (fun q => k q.1 q.2.1 q.2.2)
def md_b4 {α γ δ ε β : Type} (F : Option (α × γ × δ × ε)) (k : α → γ → δ → ε → Option β) : Option β := F.bind (fun q => k q.1 q.2.1 q.2.2.1 q.2.2.2)
def md_b5 {α γ δ ε ζ β : Type} (F : Option (α × γ × δ × ε × ζ)) (k : α → γ → δ → ε → ζ → Option β) : Option β := F.bind (fun q => k q.1 q.2.1 q.2.2.1 q.2.2.2.1 q.2.2.2.2)
def md_bS {α γ β : Type} (F : Option (α ⊕ γ)) (k1 : α → Option β) (k2 : γ → Option β) : Option β := F.bind (fun q => match q with
  | .inl a => k1 a
  | .inr a => k2 a)
def md_lt {α β : Type} (v : α) (k : α → Option β) : Option β := k v
def md_ck {α : Type} (c : Bool) (E : Option α) : Option α := if c = true then E else none
def mj_O {α : Type} (E : Option α) (P : α → Prop) : Prop := ∃ v, E = some v ∧ P v
def kb (K : Kx) : Nat := K.2.2.2
def kt (K : Kx) : List (ClassId × FieldType) := [(K.2.2.1.1, .int), (K.2.2.1.2.1, .boolean), (K.2.2.1.2.2, .object RX4)]
def rf (K : Kx) (k : Nat) : Value := .ref (kb K + k)
def fv (K : Kx) (h : Mm) (k j : Nat) (d : Nat × Nat) : Value := match d.1 with
  | 0 => .int (h k j)
  | 1 => rf K d.2
  | 2 => rf K (md_dx (h k j))
  | _ => .null
def ce (K : Kx) (h : Mm) (k : Nat) (sh : Sh) : va_E := match sh with
  | .inl o => .inr (o.1, o.2.mapIdx (fun j d => fv K h k j d))
  | .inr a => match a.1 with
    | 0 => .inl (K.2.2.1.1, a.2.1, .inl (h k))
    | 1 => .inl (K.2.2.1.2.1, a.2.1, .inl (h k))
    | _ => .inl (K.2.2.1.2.2, a.2.1, .inr (.inr (.inr (.inr (fun j => if j < a.2.2.2 then some (kb K + (a.2.2.1 + 2 * j)) else none)))))
def wl (SH : List Sh) (K : Kx) (h : Mm) : va_W := SH.mapIdx (fun k sh => (kb K + k, ce K h k sh))
theorem wl_at {SH : List Sh} {K : Kx} {h : Mm} {k : Nat} {sh : Sh} (hs : SH[k]? = some sh) : (wl SH K h)[k]? = some (kb K + k, ce K h k sh) := by
  simp [wl, List.getElem?_mapIdx, hs]
theorem wl_len (SH : List Sh) (K : Kx) (h : Mm) : (wl SH K h).length = SH.length := by simp [wl]
theorem wl_of {SH : List Sh} {K : Kx} {h : Mm} {k : Nat} {q : Nat × va_E} (hq : (wl SH K h)[k]? = some q) : ∃ sh, SH[k]? = some sh ∧ q = (kb K + k, ce K h k sh) := by
  simp only [wl, List.getElem?_mapIdx, Option.map_eq_some_iff] at hq
  obtain ⟨sh, h1, h2⟩ := hq
  exact ⟨sh, h1, h2.symm⟩
theorem wl_D (SH : List Sh) (K : Kx) (h : Mm) : va_D (fun q => kb K ≤ q) (wl SH K h) := by
  refine ⟨fun i j p q hi hj hpq => ?_, fun k q hk => ?_⟩
  · obtain ⟨_, -, rfl⟩ := wl_of hi
    obtain ⟨_, -, rfl⟩ := wl_of hj
    exact Nat.add_left_cancel hpq
  · obtain ⟨_, -, rfl⟩ := wl_of hk
    exact Nat.le_add_right _ _
theorem up_s (h : Mm) (k j : Nat) (v : Int32) : md_up h k j v k = upd (h k) j v := by simp [md_up]
theorem up_n (h : Mm) {k a : Nat} (j : Nat) (v : Int32) (ha : a ≠ k) : md_up h k j v a = h a := by simp [md_up, ha]
theorem ce_n (K : Kx) (h : Mm) {k a : Nat} (j : Nat) (v : Int32) (ha : a ≠ k) (sh : Sh) : ce K (md_up h k j v) a sh = ce K h a sh := by
  have e : md_up h k j v a = h a := up_n h j v ha
  cases sh with
  | inl o => simp only [ce, fv, e]
  | inr x => simp only [ce, e]
theorem wl_set {SH : List Sh} {K : Kx} {h : Mm} {k j : Nat} {v : Int32} {sh : Sh} {x : va_E} (hs : SH[k]? = some sh) (hx : ce K (md_up h k j v) k sh = x) : (wl SH K h).set k (kb K + k, x) = wl SH K (md_up h k j v) := by
  have hl : k < SH.length := (List.getElem?_eq_some_iff.mp hs).1
  apply List.ext_getElem?
  intro i
  by_cases hi : i = k
  · subst hi
    rw [List.getElem?_set_self (by rw [wl_len]; exact hl), wl_at hs, hx]
  · rw [List.getElem?_set_ne (Ne.symm hi)]
    simp only [wl, List.getElem?_mapIdx]
    cases SH[i]? with
    | none => rfl
    | some s2 => simp only [Option.map_some, ce_n K h j v hi]
theorem ce_int {K : Kx} {h : Mm} {k j ci : Nat} {v : Int32} {ks : List (Nat × Nat)} {z : Nat} (hk : ks[j]? = some (0, z)) : ce K (md_up h k j v) k (.inl (ci, ks)) = .inr (ci, (ks.mapIdx (fun j d => fv K h k j d)).set j (.int v)) := by
  simp only [ce, up_s, Sum.inr.injEq, Prod.mk.injEq, true_and]
  have hl : j < ks.length := (List.getElem?_eq_some_iff.mp hk).1
  apply List.ext_getElem?
  intro i
  by_cases hi : i = j
  · subst hi
    rw [List.getElem?_set_self (by simpa using hl)]
    simp [List.getElem?_mapIdx, hk, fv, up_s, upd]
  · rw [List.getElem?_set_ne (Ne.symm hi)]
    simp only [List.getElem?_mapIdx]
    cases ks[i]? with
    | none => rfl
    | some d => simp [fv, up_s, upd, hi]
theorem ce_ref {K : Kx} {h : Mm} {k j ci c : Nat} {ks : List (Nat × Nat)} {z : Nat} (hk : ks[j]? = some (2, z)) (hc : md_dx (md_ex c) = c) : ce K (md_up h k j (md_ex c)) k (.inl (ci, ks)) = .inr (ci, (ks.mapIdx (fun j d => fv K h k j d)).set j (rf K c)) := by
  simp only [ce, up_s, Sum.inr.injEq, Prod.mk.injEq, true_and]
  have hl : j < ks.length := (List.getElem?_eq_some_iff.mp hk).1
  apply List.ext_getElem?
  intro i
  by_cases hi : i = j
  · subst hi
    rw [List.getElem?_set_self (by simpa using hl)]
    simp [List.getElem?_mapIdx, hk, fv, up_s, upd, hc]
  · rw [List.getElem?_set_ne (Ne.symm hi)]
    simp only [List.getElem?_mapIdx]
    cases ks[i]? with
    | none => rfl
    | some d => simp [fv, up_s, upd, hi]
theorem md_in_vp {i : Int32} {n : Nat} (h : md_in i n = true) : vp_in i n := by
  simp only [md_in, Bool.and_eq_true, Bool.not_eq_true', decide_eq_false_iff_not, decide_eq_true_eq] at h
  intro q
  rcases q with q | q
  · exact h.1 q
  · omega
theorem md_bi_nar (v : Bool) : vp_nar .boolean (md_bi v) = md_bi v := by cases v <;> rfl
theorem md_bi_narrow (v : Bool) : narrow .boolean (.int (md_bi v)) = .int (md_bi v) := by cases v <;> rfl
theorem md_bi_0 (v : Bool) : md_bi v = 0 ↔ v = false := by cases v <;> decide
/-- the room of a method: frames, locals -/
def rmo (f lo : Nat) : Room := { frames := f, cells := 0, slots := 0, locals := lo }
def J (SH : List Sh) (K : Kx) (Y : Yx) (cs : Nat × Nat) (X : Prop) (pc : Nat) (ls : List (Nat × Value)) (st : List Value) (h : Mm) : Prop := match Y with
  | (p, e, R, s, m, args, below, meth, c, Q, nL) => X → ∀ (H : Heap) (locs : List Loc) (la : Array Slot), va_P K.2.1 vwCl (wl SH K h) H → va_S (fun q => kb K ≤ q) s.heap H locs → lv_has la nL ls → W p K.1 e R s m args below meth c H locs cs.1 cs.2 Q (F0 m pc la st)
def Cx (K : Kx) (Y : Yx) (cs : Nat × Nat) (cc : ByteArray) (own : String) (mL f lo : Nat) : Prop := match Y with
  | (p, e, R, s, m, args, below, meth, c, Q, nL) => p.tables.exec = Jvm.exec ∧ c.code = cc ∧ c.maxLocals = nL ∧ s.vm.findClass own = some m.cls ∧ (∀ w ∈ lw_ok, w.before args s = true) ∧ va_K K.2.1 vwCl (kt K) s ∧ cs.1 ≤ R.cells ∧ cs.2 ≤ R.slots ∧ f ≤ R.frames ∧ lo ≤ R.locals ∧ nL = mL
def Qj (SH : List Sh) (K : Kx) (rv : Option Value) (h : Mm) : Array Value → State → Outcome → State → Prop := fun _ st o t => o = .returned rv ∧ va_P K.2.1 vwCl (wl SH K h) t.heap ∧ va_F (fun q => kb K ≤ q) st t
def En (SH : List Sh) (K : Kx) (Y : Yx) (rv : Option Value) (h : Mm) (rt : Option FieldType) : Prop := match Y with
  | (p, e, R, s, m, args, below, meth, c, Q, nL) => Q = MQ below (Qj SH K rv h) args s 0 0 (fun q => kb K ≤ q) ∧ meth.sig.returnType = rt ∧ meth.locks = false
def Mt (K : Kx) (y : MethodName) (bs : ByteArray) (mL : Nat) (rt : Option FieldType) (f lo : Nat) (SH : List Sh) (av : List Value) (h : Mm) (rv : Option Value) (h' : Mm) : Prop :=
  Met K.1 y (.code y bs mL rt :: lw_ok) (rmo f lo) (va_Pc av (fun U => va_P K.2.1 vwCl (wl SH K h) U.heap ∧ va_K K.2.1 vwCl (kt K) U)) (Qj SH K rv h') 0 0 (fun q => kb K ≤ q)
theorem Mt.of {K : Kx} {y : MethodName} {bs : ByteArray} {mL : Nat} {rt : Option FieldType} {f lo : Nat} {SH : List Sh} {av : List Value} {h h' : Mm} {rv : Option Value} {α : Type} {F : Option α} {a : α} (hF : F = some a) (ls : List (Nat × Value)) (hy : plainName y.cls = true) (hav : (lg_sl av).length ≤ mL) (hls : lv_args 0 av = ls)
    (body : ∀ Y : Yx, Cx K Y (0, 0) bs y.cls mL f lo → En SH K Y rv h' rt → J SH K Y (0, 0) (mj_O F (fun v => v = a)) 0 ls [] h) : Mt K y bs mL rt f lo SH av h rv h' := by
  refine Met.ofW (cc := bs) (maxL := mL) (ret := rt) hy rfl ?_
  intro p e s m args below meth c s₁ B hml hv
  obtain ⟨rfl, hP, hK⟩ := hv
  have hts := atoms_spec (ws := .code y bs mL rt :: lw_ok) B.pre
  have hown : s.vm.findClass y.cls = some m.cls := findClass_of_methodNamed B.named
  have k := body (p, e, (headSpec (.code y bs mL rt :: lw_ok) (rmo f lo)).room, s, m, av.toArray, below, meth, c, MQ below (Qj SH K rv h') av.toArray s 0 0 (fun q => kb K ≤ q), mL) ⟨B.exec, B.bytes, hml, hown, fun w hw => hts w (List.mem_cons_of_mem _ hw), hK, Nat.le_refl _, Nat.le_refl _, Nat.le_refl _, Nat.le_refl _, rfl⟩ ⟨rfl, B.returns, B.notSynchronized⟩ ⟨a, hF, rfl⟩
  have hl := lv_entry av (n := mL) hav
  rw [lg_entry_eq]
  rw [hls] at hl
  exact k s.heap [] _ hP va_S.rf hl
/-- structure rules -/
theorem mj_sub {SH : List Sh} {K : Kx} {Y : Yx} {cs : Nat × Nat} {X : Prop} {pc : Nat} {ls ls' : List (Nat × Value)} {st : List Value} {h : Mm} (ks : List Nat) (hl : lv_pick ls ks = ls') (kk : J SH K Y cs X pc ls' st h) : J SH K Y cs X pc ls st h := by
  obtain ⟨p, e, R, s, m, args, below, meth, c, Q, nL⟩ := Y
  intro hX H locs la hP hS hL
  exact kk hX H locs la hP hS (lv_sub hL ks hl)
theorem mj_X {SH : List Sh} {K : Kx} {Y : Yx} {cs : Nat × Nat} {X X' : Prop} {pc : Nat} {ls : List (Nat × Value)} {st : List Value} {h : Mm} (hx : X → X') (kk : J SH K Y cs X' pc ls st h) : J SH K Y cs X pc ls st h := by
  obtain ⟨p, e, R, s, m, args, below, meth, c, Q, nL⟩ := Y
  intro hX
  exact kk (hx hX)
theorem mj_use {SH : List Sh} {K : Kx} {Y : Yx} {cs : Nat × Nat} {X : Prop} {pc : Nat} {ls : List (Nat × Value)} {st : List Value} {h : Mm} (kk : X → J SH K Y cs True pc ls st h) : J SH K Y cs X pc ls st h := by
  obtain ⟨p, e, R, s, m, args, below, meth, c, Q, nL⟩ := Y
  intro hX
  exact kk hX trivial
theorem mj_none {SH : List Sh} {K : Kx} {Y : Yx} {cs : Nat × Nat} {pc : Nat} {ls : List (Nat × Value)} {st : List Value} {h : Mm} {α : Type} {P : α → Prop} : J SH K Y cs (mj_O none P) pc ls st h := by
  obtain ⟨p, e, R, s, m, args, below, meth, c, Q, nL⟩ := Y
  intro hX
  obtain ⟨v, h1, -⟩ := hX
  cases h1
theorem mj_some {SH : List Sh} {K : Kx} {Y : Yx} {cs : Nat × Nat} {pc : Nat} {ls : List (Nat × Value)} {st : List Value} {h : Mm} {α : Type} {P : α → Prop} {v : α} (kk : J SH K Y cs (P v) pc ls st h) : J SH K Y cs (mj_O (some v) P) pc ls st h := mj_X (fun ⟨w, h1, h2⟩ => by cases h1; exact h2) kk
theorem mj_bd {SH : List Sh} {K : Kx} {Y : Yx} {cs : Nat × Nat} {pc : Nat} {ls : List (Nat × Value)} {st : List Value} {h : Mm} {α β : Type} {P : β → Prop} {F : Option α} {k : α → Option β} (kk : J SH K Y cs (mj_O F (fun v => mj_O (k v) P)) pc ls st h) : J SH K Y cs (mj_O (md_bd F k) P) pc ls st h := mj_X (fun ⟨w, h1, h2⟩ => by
  cases F with
  | none => simp [md_bd] at h1
  | some a => exact ⟨a, rfl, w, h1, h2⟩) kk
theorem mj_b2 {SH : List Sh} {K : Kx} {Y : Yx} {cs : Nat × Nat} {pc : Nat} {ls : List (Nat × Value)} {st : List Value} {h : Mm} {α γ β : Type} {P : β → Prop} {F : Option (α × γ)} {k : α → γ → Option β} (kk : J SH K Y cs (mj_O F (fun v => mj_O (k v.1 v.2) P)) pc ls st h) : J SH K Y cs (mj_O (md_b2 F k) P) pc ls st h := mj_X (fun ⟨w, h1, h2⟩ => by
  cases F with
  | none => simp [md_b2] at h1
  | some a => exact ⟨a, rfl, w, h1, h2⟩) kk
theorem mj_b3 {SH : List Sh} {K : Kx} {Y : Yx} {cs : Nat × Nat} {pc : Nat} {ls : List (Nat × Value)} {st : List Value} {h : Mm} {α γ δ β : Type} {P : β → Prop} {F : Option (α × γ × δ)} {k : α → γ → δ → Option β} (kk : J SH K Y cs (mj_O F (fun v => mj_O (k v.1 v.2.1 v.2.2) P)) pc ls st h) : J SH K Y cs (mj_O (md_b3 F k) P) pc ls st h := mj_X (fun ⟨w, h1, h2⟩ => by
  cases F with
  | none => simp [md_b3] at h1
  | some a => exact ⟨a, rfl, w, h1, h2⟩) kk
theorem mj_b4 {SH : List Sh} {K : Kx} {Y : Yx} {cs : Nat × Nat} {pc : Nat} {ls : List (Nat × Value)} {st : List Value} {h : Mm} {α γ δ ε β : Type} {P : β → Prop} {F : Option (α × γ × δ × ε)} {k : α → γ → δ → ε → Option β} (kk : J SH K Y cs (mj_O F (fun v => mj_O (k v.1 v.2.1 v.2.2.1 v.2.2.2) P)) pc ls st h) : J SH K Y cs (mj_O (md_b4 F k) P) pc ls st h := mj_X (fun ⟨w, h1, h2⟩ => by
  cases F with
  | none => simp [md_b4] at h1
  | some a => exact ⟨a, rfl, w, h1, h2⟩) kk
theorem mj_b5 {SH : List Sh} {K : Kx} {Y : Yx} {cs : Nat × Nat} {pc : Nat} {ls : List (Nat × Value)} {st : List Value} {h : Mm} {α γ δ ε ζ β : Type} {P : β → Prop} {F : Option (α × γ × δ × ε × ζ)} {k : α → γ → δ → ε → ζ → Option β} (kk : J SH K Y cs (mj_O F (fun v => mj_O (k v.1 v.2.1 v.2.2.1 v.2.2.2.1 v.2.2.2.2) P)) pc ls st h) : J SH K Y cs (mj_O (md_b5 F k) P) pc ls st h := mj_X (fun ⟨w, h1, h2⟩ => by
  cases F with
  | none => simp [md_b5] at h1
  | some a => exact ⟨a, rfl, w, h1, h2⟩) kk
def mj_P2 {α γ β : Type} (k1 : α → Option β) (k2 : γ → Option β) (P : β → Prop) : α ⊕ γ → Prop := fun q => match q with
  | .inl a => mj_O (k1 a) P
  | .inr a => mj_O (k2 a) P
theorem mj_bS {SH : List Sh} {K : Kx} {Y : Yx} {cs : Nat × Nat} {pc : Nat} {ls : List (Nat × Value)} {st : List Value} {h : Mm} {α γ β : Type} {P : β → Prop} {F : Option (α ⊕ γ)} {k1 : α → Option β} {k2 : γ → Option β} (kk : J SH K Y cs (mj_O F (mj_P2 k1 k2 P)) pc ls st h) : J SH K Y cs (mj_O (md_bS F k1 k2) P) pc ls st h := mj_X (fun ⟨w, h1, h2⟩ => by
  cases F with
  | none => simp [md_bS] at h1
  | some a => cases a with
    | inl a => exact ⟨_, rfl, w, h1, h2⟩
    | inr a => exact ⟨_, rfl, w, h1, h2⟩) kk
theorem mj_lt {SH : List Sh} {K : Kx} {Y : Yx} {cs : Nat × Nat} {pc : Nat} {ls : List (Nat × Value)} {st : List Value} {h : Mm} {α β : Type} {P : β → Prop} {v : α} {k : α → Option β} (kk : J SH K Y cs (mj_O (k v) P) pc ls st h) : J SH K Y cs (mj_O (md_lt v k) P) pc ls st h := kk
theorem mj_ckU {SH : List Sh} {K : Kx} {Y : Yx} {cs : Nat × Nat} {pc : Nat} {ls : List (Nat × Value)} {st : List Value} {h : Mm} {α : Type} {P : α → Prop} {c : Bool} {E : Option α} (kk : c = true → J SH K Y cs (mj_O E P) pc ls st h) : J SH K Y cs (mj_O (md_ck c E) P) pc ls st h := by
  cases c with
  | true => exact mj_X (fun q => q) (kk rfl)
  | false => exact mj_X (fun q => by simpa [md_ck] using q) (mj_none (P := P))
section MJ
variable {SH : List Sh} {K : Kx} {Y : Yx} {cs : Nat × Nat} {X : Prop} {pc : Nat} {ls : List (Nat × Value)} {st : List Value} {h : Mm} {cc : ByteArray} {own : String} {mL f lo : Nat}
theorem mj_iload_n (C : Cx K Y cs cc own mL f lo) {k : Fin 4} {i : Nat} {x : Int32} (q : Nat) (hd : decode cc pc = .ok (.iload_n k, 1)) (hi : (k : Nat) = i) (hk : ls[q]? = some (i, .int x)) (kk : J SH K Y cs X (pc + 1) ls (.int x :: st) h) : J SH K Y cs X pc ls (st) h := by
  obtain ⟨p, e, R, s, m, args, below, meth, c, Q, nL⟩ := Y
  obtain ⟨hx, hb, hml, hown, hts, hK, hce, hcs, hfr, hlo, hnl⟩ := C
  intro hX H locs la hP hS hL
  exact lv_iload_n hx hb hd hi (lv_at hL q hk) (kk hX H locs la hP hS hL)
theorem mj_lload_n (C : Cx K Y cs cc own mL f lo) {k : Fin 4} {i : Nat} {x : Int64} (q : Nat) (hd : decode cc pc = .ok (.lload_n k, 1)) (hi : (k : Nat) = i) (hk : ls[q]? = some (i, .long x)) (kk : J SH K Y cs X (pc + 1) ls (.long x :: st) h) : J SH K Y cs X pc ls (st) h := by
  obtain ⟨p, e, R, s, m, args, below, meth, c, Q, nL⟩ := Y
  obtain ⟨hx, hb, hml, hown, hts, hK, hce, hcs, hfr, hlo, hnl⟩ := C
  intro hX H locs la hP hS hL
  exact lv_lload_n hx hb hd hi (lv_at hL q hk) (kk hX H locs la hP hS hL)
theorem mj_iload (C : Cx K Y cs cc own mL f lo) {i : Nat} {x : Int32} (q : Nat) (hd : decode cc pc = .ok (.iload i, 2)) (hk : ls[q]? = some (i, .int x)) (kk : J SH K Y cs X (pc + 2) ls (.int x :: st) h) : J SH K Y cs X pc ls (st) h := by
  obtain ⟨p, e, R, s, m, args, below, meth, c, Q, nL⟩ := Y
  obtain ⟨hx, hb, hml, hown, hts, hK, hce, hcs, hfr, hlo, hnl⟩ := C
  intro hX H locs la hP hS hL
  exact lv_iload hx hb hd (lv_at hL q hk) (kk hX H locs la hP hS hL)
theorem mj_lload (C : Cx K Y cs cc own mL f lo) {i : Nat} {x : Int64} (q : Nat) (hd : decode cc pc = .ok (.lload i, 2)) (hk : ls[q]? = some (i, .long x)) (kk : J SH K Y cs X (pc + 2) ls (.long x :: st) h) : J SH K Y cs X pc ls (st) h := by
  obtain ⟨p, e, R, s, m, args, below, meth, c, Q, nL⟩ := Y
  obtain ⟨hx, hb, hml, hown, hts, hK, hce, hcs, hfr, hlo, hnl⟩ := C
  intro hX H locs la hP hS hL
  exact lv_lload hx hb hd (lv_at hL q hk) (kk hX H locs la hP hS hL)
theorem mj_aload_n (C : Cx K Y cs cc own mL f lo) {k : Fin 4} {i : Nat} {x : Nat} (q : Nat) (hd : decode cc pc = .ok (.aload_n k, 1)) (hi : (k : Nat) = i) (hk : ls[q]? = some (i, rf K x)) (kk : J SH K Y cs X (pc + 1) ls (rf K x :: st) h) : J SH K Y cs X pc ls (st) h := by
  obtain ⟨p, e, R, s, m, args, below, meth, c, Q, nL⟩ := Y
  obtain ⟨hx, hb, hml, hown, hts, hK, hce, hcs, hfr, hlo, hnl⟩ := C
  intro hX H locs la hP hS hL
  exact lv_aload_n hx hb hd hi (lv_at hL q hk) (kk hX H locs la hP hS hL)
theorem mj_aload_nR (C : Cx K Y cs cc own mL f lo) {k : Fin 4} {i : Nat} {x : Nat} (q : Nat) (hd : decode cc pc = .ok (.aload_n k, 1)) (hi : (k : Nat) = i) (hk : ls[q]? = some (i, .ref x)) (kk : J SH K Y cs X (pc + 1) ls (.ref x :: st) h) : J SH K Y cs X pc ls (st) h := by
  obtain ⟨p, e, R, s, m, args, below, meth, c, Q, nL⟩ := Y
  obtain ⟨hx, hb, hml, hown, hts, hK, hce, hcs, hfr, hlo, hnl⟩ := C
  intro hX H locs la hP hS hL
  exact lv_aload_n hx hb hd hi (lv_at hL q hk) (kk hX H locs la hP hS hL)
theorem mj_iconst (C : Cx K Y cs cc own mL f lo) {n : Int} {v : Int32} (hd : decode cc pc = .ok (.iconst n, 1)) (hv : Int32.ofInt n = v) (kk : J SH K Y cs X (pc + 1) ls (.int v :: st) h) : J SH K Y cs X pc ls (st) h := by
  obtain ⟨p, e, R, s, m, args, below, meth, c, Q, nL⟩ := Y
  obtain ⟨hx, hb, hml, hown, hts, hK, hce, hcs, hfr, hlo, hnl⟩ := C
  intro hX H locs la hP hS hL
  exact lv_iconst hx hb hd hv (kk hX H locs la hP hS hL)
theorem mj_bipush (C : Cx K Y cs cc own mL f lo) {n : Int} {v : Int32} (hd : decode cc pc = .ok (.bipush n, 2)) (hv : (Int8.ofInt n).toInt32 = v) (kk : J SH K Y cs X (pc + 2) ls (.int v :: st) h) : J SH K Y cs X pc ls (st) h := by
  obtain ⟨p, e, R, s, m, args, below, meth, c, Q, nL⟩ := Y
  obtain ⟨hx, hb, hml, hown, hts, hK, hce, hcs, hfr, hlo, hnl⟩ := C
  intro hX H locs la hP hS hL
  exact lv_bipush hx hb hd hv (kk hX H locs la hP hS hL)
theorem mj_sipush (C : Cx K Y cs cc own mL f lo) {n : Int} {v : Int32} (hd : decode cc pc = .ok (.sipush n, 3)) (hv : (Int16.ofInt n).toInt32 = v) (kk : J SH K Y cs X (pc + 3) ls (.int v :: st) h) : J SH K Y cs X pc ls (st) h := by
  obtain ⟨p, e, R, s, m, args, below, meth, c, Q, nL⟩ := Y
  obtain ⟨hx, hb, hml, hown, hts, hK, hce, hcs, hfr, hlo, hnl⟩ := C
  intro hX H locs la hP hS hL
  exact lv_sipush hx hb hd hv (kk hX H locs la hP hS hL)
theorem mj_lconst (C : Cx K Y cs cc own mL f lo) {n : Fin 2} {v : Int64} (hd : decode cc pc = .ok (.lconst n, 1)) (hv : Int64.ofNat (n : Nat) = v) (kk : J SH K Y cs X (pc + 1) ls (.long v :: st) h) : J SH K Y cs X pc ls (st) h := by
  obtain ⟨p, e, R, s, m, args, below, meth, c, Q, nL⟩ := Y
  obtain ⟨hx, hb, hml, hown, hts, hK, hce, hcs, hfr, hlo, hnl⟩ := C
  intro hX H locs la hP hS hL
  exact lv_lconst hx hb hd hv (kk hX H locs la hP hS hL)
theorem mj_ldc (C : Cx K Y cs cc own mL f lo) {i : Nat} {v : Int32} (hw : Cond.constant own i v ∈ lw_ok) (hd : decode cc pc = .ok (.ldc i, 2)) (kk : J SH K Y cs X (pc + 2) ls (.int v :: st) h) : J SH K Y cs X pc ls (st) h := by
  obtain ⟨p, e, R, s, m, args, below, meth, c, Q, nL⟩ := Y
  obtain ⟨hx, hb, hml, hown, hts, hK, hce, hcs, hfr, hlo, hnl⟩ := C
  intro hX H locs la hP hS hL
  exact lv_ldc hx hb hown (hts _ hw) hd (kk hX H locs la hP hS hL)
theorem mj_ldcw (C : Cx K Y cs cc own mL f lo) {i : Nat} {v : Int32} (hw : Cond.constant own i v ∈ lw_ok) (hd : decode cc pc = .ok (.ldc_w i, 3)) (kk : J SH K Y cs X (pc + 3) ls (.int v :: st) h) : J SH K Y cs X pc ls (st) h := by
  obtain ⟨p, e, R, s, m, args, below, meth, c, Q, nL⟩ := Y
  obtain ⟨hx, hb, hml, hown, hts, hK, hce, hcs, hfr, hlo, hnl⟩ := C
  intro hX H locs la hP hS hL
  exact lv_ldcw hx hb hown (hts _ hw) hd (kk hX H locs la hP hS hL)
theorem mj_ldc2 (C : Cx K Y cs cc own mL f lo) {i : Nat} {v : Int64} (hw : Cond.constantLong own i v ∈ lw_ok) (hd : decode cc pc = .ok (.ldc2_w i, 3)) (kk : J SH K Y cs X (pc + 3) ls (.long v :: st) h) : J SH K Y cs X pc ls (st) h := by
  obtain ⟨p, e, R, s, m, args, below, meth, c, Q, nL⟩ := Y
  obtain ⟨hx, hb, hml, hown, hts, hK, hce, hcs, hfr, hlo, hnl⟩ := C
  intro hX H locs la hP hS hL
  exact lv_ldc2 hx hb hown (hts _ hw) hd (kk hX H locs la hP hS hL)
theorem mj_iadd (C : Cx K Y cs cc own mL f lo) {x y : Int32} (hd : decode cc pc = .ok (.iadd, 1)) (kk : J SH K Y cs X (pc + 1) ls (.int (x + y) :: st) h) : J SH K Y cs X pc ls (.int y :: .int x :: st) h := by
  obtain ⟨p, e, R, s, m, args, below, meth, c, Q, nL⟩ := Y
  obtain ⟨hx, hb, hml, hown, hts, hK, hce, hcs, hfr, hlo, hnl⟩ := C
  intro hX H locs la hP hS hL
  exact lv_iadd hx hb hd (kk hX H locs la hP hS hL)
theorem mj_isub (C : Cx K Y cs cc own mL f lo) {x y : Int32} (hd : decode cc pc = .ok (.isub, 1)) (kk : J SH K Y cs X (pc + 1) ls (.int (x - y) :: st) h) : J SH K Y cs X pc ls (.int y :: .int x :: st) h := by
  obtain ⟨p, e, R, s, m, args, below, meth, c, Q, nL⟩ := Y
  obtain ⟨hx, hb, hml, hown, hts, hK, hce, hcs, hfr, hlo, hnl⟩ := C
  intro hX H locs la hP hS hL
  exact lv_isub hx hb hd (kk hX H locs la hP hS hL)
theorem mj_imul (C : Cx K Y cs cc own mL f lo) {x y : Int32} (hd : decode cc pc = .ok (.imul, 1)) (kk : J SH K Y cs X (pc + 1) ls (.int (x * y) :: st) h) : J SH K Y cs X pc ls (.int y :: .int x :: st) h := by
  obtain ⟨p, e, R, s, m, args, below, meth, c, Q, nL⟩ := Y
  obtain ⟨hx, hb, hml, hown, hts, hK, hce, hcs, hfr, hlo, hnl⟩ := C
  intro hX H locs la hP hS hL
  exact lv_imul hx hb hd (kk hX H locs la hP hS hL)
theorem mj_iand (C : Cx K Y cs cc own mL f lo) {x y : Int32} (hd : decode cc pc = .ok (.iand, 1)) (kk : J SH K Y cs X (pc + 1) ls (.int (x &&& y) :: st) h) : J SH K Y cs X pc ls (.int y :: .int x :: st) h := by
  obtain ⟨p, e, R, s, m, args, below, meth, c, Q, nL⟩ := Y
  obtain ⟨hx, hb, hml, hown, hts, hK, hce, hcs, hfr, hlo, hnl⟩ := C
  intro hX H locs la hP hS hL
  exact lv_iand hx hb hd (kk hX H locs la hP hS hL)
theorem mj_ior (C : Cx K Y cs cc own mL f lo) {x y : Int32} (hd : decode cc pc = .ok (.ior, 1)) (kk : J SH K Y cs X (pc + 1) ls (.int (x ||| y) :: st) h) : J SH K Y cs X pc ls (.int y :: .int x :: st) h := by
  obtain ⟨p, e, R, s, m, args, below, meth, c, Q, nL⟩ := Y
  obtain ⟨hx, hb, hml, hown, hts, hK, hce, hcs, hfr, hlo, hnl⟩ := C
  intro hX H locs la hP hS hL
  exact lv_ior hx hb hd (kk hX H locs la hP hS hL)
theorem mj_ixor (C : Cx K Y cs cc own mL f lo) {x y : Int32} (hd : decode cc pc = .ok (.ixor, 1)) (kk : J SH K Y cs X (pc + 1) ls (.int (x ^^^ y) :: st) h) : J SH K Y cs X pc ls (.int y :: .int x :: st) h := by
  obtain ⟨p, e, R, s, m, args, below, meth, c, Q, nL⟩ := Y
  obtain ⟨hx, hb, hml, hown, hts, hK, hce, hcs, hfr, hlo, hnl⟩ := C
  intro hX H locs la hP hS hL
  exact lv_ixor hx hb hd (kk hX H locs la hP hS hL)
theorem mj_ishl (C : Cx K Y cs cc own mL f lo) {x y : Int32} (hd : decode cc pc = .ok (.ishl, 1)) (kk : J SH K Y cs X (pc + 1) ls (.int (x <<< (y &&& 31)) :: st) h) : J SH K Y cs X pc ls (.int y :: .int x :: st) h := by
  obtain ⟨p, e, R, s, m, args, below, meth, c, Q, nL⟩ := Y
  obtain ⟨hx, hb, hml, hown, hts, hK, hce, hcs, hfr, hlo, hnl⟩ := C
  intro hX H locs la hP hS hL
  exact lv_ishl hx hb hd (kk hX H locs la hP hS hL)
theorem mj_ishr (C : Cx K Y cs cc own mL f lo) {x y : Int32} (hd : decode cc pc = .ok (.ishr, 1)) (kk : J SH K Y cs X (pc + 1) ls (.int (x >>> (y &&& 31)) :: st) h) : J SH K Y cs X pc ls (.int y :: .int x :: st) h := by
  obtain ⟨p, e, R, s, m, args, below, meth, c, Q, nL⟩ := Y
  obtain ⟨hx, hb, hml, hown, hts, hK, hce, hcs, hfr, hlo, hnl⟩ := C
  intro hX H locs la hP hS hL
  exact lv_ishr hx hb hd (kk hX H locs la hP hS hL)
theorem mj_ladd (C : Cx K Y cs cc own mL f lo) {x y : Int64} (hd : decode cc pc = .ok (.ladd, 1)) (kk : J SH K Y cs X (pc + 1) ls (.long (x + y) :: st) h) : J SH K Y cs X pc ls (.long y :: .long x :: st) h := by
  obtain ⟨p, e, R, s, m, args, below, meth, c, Q, nL⟩ := Y
  obtain ⟨hx, hb, hml, hown, hts, hK, hce, hcs, hfr, hlo, hnl⟩ := C
  intro hX H locs la hP hS hL
  exact lv_ladd hx hb hd (kk hX H locs la hP hS hL)
theorem mj_lmul (C : Cx K Y cs cc own mL f lo) {x y : Int64} (hd : decode cc pc = .ok (.lmul, 1)) (kk : J SH K Y cs X (pc + 1) ls (.long (x * y) :: st) h) : J SH K Y cs X pc ls (.long y :: .long x :: st) h := by
  obtain ⟨p, e, R, s, m, args, below, meth, c, Q, nL⟩ := Y
  obtain ⟨hx, hb, hml, hown, hts, hK, hce, hcs, hfr, hlo, hnl⟩ := C
  intro hX H locs la hP hS hL
  exact lv_lmul hx hb hd (kk hX H locs la hP hS hL)
theorem mj_land (C : Cx K Y cs cc own mL f lo) {x y : Int64} (hd : decode cc pc = .ok (.land, 1)) (kk : J SH K Y cs X (pc + 1) ls (.long (x &&& y) :: st) h) : J SH K Y cs X pc ls (.long y :: .long x :: st) h := by
  obtain ⟨p, e, R, s, m, args, below, meth, c, Q, nL⟩ := Y
  obtain ⟨hx, hb, hml, hown, hts, hK, hce, hcs, hfr, hlo, hnl⟩ := C
  intro hX H locs la hP hS hL
  exact lv_land hx hb hd (kk hX H locs la hP hS hL)
theorem mj_iushr (C : Cx K Y cs cc own mL f lo) {x y : Int32} (hd : decode cc pc = .ok (.iushr, 1)) (kk : J SH K Y cs X (pc + 1) ls (.int ((x.toUInt32 >>> (y.toUInt32 &&& Int32.toUInt32 31)).toInt32) :: st) h) : J SH K Y cs X pc ls (.int y :: .int x :: st) h := by
  obtain ⟨p, e, R, s, m, args, below, meth, c, Q, nL⟩ := Y
  obtain ⟨hx, hb, hml, hown, hts, hK, hce, hcs, hfr, hlo, hnl⟩ := C
  intro hX H locs la hP hS hL
  exact lv_iushr hx hb hd rfl (kk hX H locs la hP hS hL)
theorem mj_lcmp (C : Cx K Y cs cc own mL f lo) {x y : Int64} (hd : decode cc pc = .ok (.lcmp, 1)) (kk : J SH K Y cs X (pc + 1) ls (.int (lg_cmp x y) :: st) h) : J SH K Y cs X pc ls (.long y :: .long x :: st) h := by
  obtain ⟨p, e, R, s, m, args, below, meth, c, Q, nL⟩ := Y
  obtain ⟨hx, hb, hml, hown, hts, hK, hce, hcs, hfr, hlo, hnl⟩ := C
  intro hX H locs la hP hS hL
  exact W.lcmp hx hb hd (kk hX H locs la hP hS hL)
theorem mj_i2l (C : Cx K Y cs cc own mL f lo) {x : Int32} (hd : decode cc pc = .ok (.i2l, 1)) (kk : J SH K Y cs X (pc + 1) ls (.long x.toInt64 :: st) h) : J SH K Y cs X pc ls (.int x :: st) h := by
  obtain ⟨p, e, R, s, m, args, below, meth, c, Q, nL⟩ := Y
  obtain ⟨hx, hb, hml, hown, hts, hK, hce, hcs, hfr, hlo, hnl⟩ := C
  intro hX H locs la hP hS hL
  exact lv_i2l hx hb hd rfl (kk hX H locs la hP hS hL)
theorem mj_l2i (C : Cx K Y cs cc own mL f lo) {x : Int64} (hd : decode cc pc = .ok (.l2i, 1)) (kk : J SH K Y cs X (pc + 1) ls (.int x.toInt32 :: st) h) : J SH K Y cs X pc ls (.long x :: st) h := by
  obtain ⟨p, e, R, s, m, args, below, meth, c, Q, nL⟩ := Y
  obtain ⟨hx, hb, hml, hown, hts, hK, hce, hcs, hfr, hlo, hnl⟩ := C
  intro hX H locs la hP hS hL
  exact lv_l2i hx hb hd rfl (kk hX H locs la hP hS hL)
theorem mj_dup (C : Cx K Y cs cc own mL f lo) {v : Value} (hd : decode cc pc = .ok (.dup, 1)) (hv : v.category = 1) (kk : J SH K Y cs X (pc + 1) ls (v :: v :: st) h) : J SH K Y cs X pc ls (v :: st) h := by
  obtain ⟨p, e, R, s, m, args, below, meth, c, Q, nL⟩ := Y
  obtain ⟨hx, hb, hml, hown, hts, hK, hce, hcs, hfr, hlo, hnl⟩ := C
  intro hX H locs la hP hS hL
  exact lv_dup hx hb hd hv (kk hX H locs la hP hS hL)
theorem mj_pop (C : Cx K Y cs cc own mL f lo) {v : Value} (hd : decode cc pc = .ok (.pop, 1)) (hv : v.category = 1) (kk : J SH K Y cs X (pc + 1) ls (st) h) : J SH K Y cs X pc ls (v :: st) h := by
  obtain ⟨p, e, R, s, m, args, below, meth, c, Q, nL⟩ := Y
  obtain ⟨hx, hb, hml, hown, hts, hK, hce, hcs, hfr, hlo, hnl⟩ := C
  intro hX H locs la hP hS hL
  exact lv_pop hx hb hd hv (kk hX H locs la hP hS hL)
theorem mj_dup2 (C : Cx K Y cs cc own mL f lo) {v w : Value} (hd : decode cc pc = .ok (.dup2, 1)) (hv : v.category = 1) (hw : w.category = 1) (kk : J SH K Y cs X (pc + 1) ls (v :: w :: v :: w :: st) h) : J SH K Y cs X pc ls (v :: w :: st) h := by
  obtain ⟨p, e, R, s, m, args, below, meth, c, Q, nL⟩ := Y
  obtain ⟨hx, hb, hml, hown, hts, hK, hce, hcs, hfr, hlo, hnl⟩ := C
  intro hX H locs la hP hS hL
  exact lv_dup2_11 hx hb hd hv hw (kk hX H locs la hP hS hL)
theorem mj_goto (C : Cx K Y cs cc own mL f lo) {off : Int} (tgt : Nat) (hd : decode cc pc = .ok (.goto off, 3)) (ht : (pc : Int) + off = (tgt : Int)) (kk : J SH K Y cs X tgt ls (st) h) : J SH K Y cs X pc ls (st) h := by
  obtain ⟨p, e, R, s, m, args, below, meth, c, Q, nL⟩ := Y
  obtain ⟨hx, hb, hml, hown, hts, hK, hce, hcs, hfr, hlo, hnl⟩ := C
  intro hX H locs la hP hS hL
  exact lv_goto hx hb hd ht (kk hX H locs la hP hS hL)
theorem mj_idiv (C : Cx K Y cs cc own mL f lo) {x y : Int32} (hd : decode cc pc = .ok (.idiv, 1)) (hne : ¬ y = 0) (kk : J SH K Y cs X (pc + 1) ls (.int (x / y) :: st) h) : J SH K Y cs X pc ls (.int y :: .int x :: st) h := by
  obtain ⟨p, e, R, s, m, args, below, meth, c, Q, nL⟩ := Y
  obtain ⟨hx, hb, hml, hown, hts, hK, hce, hcs, hfr, hlo, hnl⟩ := C
  intro hX H locs la hP hS hL
  exact lv_idiv hx hb hd hne (kk hX H locs la hP hS hL)
theorem mj_idivC {α : Type} {E : Option α} {P : α → Prop} (C : Cx K Y cs cc own mL f lo) {x y : Int32} (hd : decode cc pc = .ok (.idiv, 1)) (kk : J SH K Y cs (mj_O E P) (pc + 1) ls (.int (x / y) :: st) h) : J SH K Y cs (mj_O (md_ck (decide (¬ y = 0)) E) P) pc ls (.int y :: .int x :: st) h := mj_ckU (fun hc => mj_idiv C hd (of_decide_eq_true hc) kk)
theorem mj_irem (C : Cx K Y cs cc own mL f lo) {x y : Int32} (hd : decode cc pc = .ok (.irem, 1)) (hne : ¬ y = 0) (kk : J SH K Y cs X (pc + 1) ls (.int (x - x / y * y) :: st) h) : J SH K Y cs X pc ls (.int y :: .int x :: st) h := by
  obtain ⟨p, e, R, s, m, args, below, meth, c, Q, nL⟩ := Y
  obtain ⟨hx, hb, hml, hown, hts, hK, hce, hcs, hfr, hlo, hnl⟩ := C
  intro hX H locs la hP hS hL
  exact lv_irem hx hb hd hne (kk hX H locs la hP hS hL)
theorem mj_iremC {α : Type} {E : Option α} {P : α → Prop} (C : Cx K Y cs cc own mL f lo) {x y : Int32} (hd : decode cc pc = .ok (.irem, 1)) (kk : J SH K Y cs (mj_O E P) (pc + 1) ls (.int (x - x / y * y) :: st) h) : J SH K Y cs (mj_O (md_ck (decide (¬ y = 0)) E) P) pc ls (.int y :: .int x :: st) h := mj_ckU (fun hc => mj_irem C hd (of_decide_eq_true hc) kk)
theorem mj_ldiv (C : Cx K Y cs cc own mL f lo) {x y : Int64} (hd : decode cc pc = .ok (.ldiv, 1)) (hne : ¬ y = 0) (kk : J SH K Y cs X (pc + 1) ls (.long (x / y) :: st) h) : J SH K Y cs X pc ls (.long y :: .long x :: st) h := by
  obtain ⟨p, e, R, s, m, args, below, meth, c, Q, nL⟩ := Y
  obtain ⟨hx, hb, hml, hown, hts, hK, hce, hcs, hfr, hlo, hnl⟩ := C
  intro hX H locs la hP hS hL
  exact lv_ldiv hx hb hd hne (kk hX H locs la hP hS hL)
theorem mj_ldivC {α : Type} {E : Option α} {P : α → Prop} (C : Cx K Y cs cc own mL f lo) {x y : Int64} (hd : decode cc pc = .ok (.ldiv, 1)) (kk : J SH K Y cs (mj_O E P) (pc + 1) ls (.long (x / y) :: st) h) : J SH K Y cs (mj_O (md_ck (decide (¬ y = 0)) E) P) pc ls (.long y :: .long x :: st) h := mj_ckU (fun hc => mj_ldiv C hd (of_decide_eq_true hc) kk)
theorem mj_lrem (C : Cx K Y cs cc own mL f lo) {x y : Int64} (hd : decode cc pc = .ok (.lrem, 1)) (hne : ¬ y = 0) (kk : J SH K Y cs X (pc + 1) ls (.long (x - x / y * y) :: st) h) : J SH K Y cs X pc ls (.long y :: .long x :: st) h := by
  obtain ⟨p, e, R, s, m, args, below, meth, c, Q, nL⟩ := Y
  obtain ⟨hx, hb, hml, hown, hts, hK, hce, hcs, hfr, hlo, hnl⟩ := C
  intro hX H locs la hP hS hL
  exact lv_lrem hx hb hd hne (kk hX H locs la hP hS hL)
theorem mj_lremC {α : Type} {E : Option α} {P : α → Prop} (C : Cx K Y cs cc own mL f lo) {x y : Int64} (hd : decode cc pc = .ok (.lrem, 1)) (kk : J SH K Y cs (mj_O E P) (pc + 1) ls (.long (x - x / y * y) :: st) h) : J SH K Y cs (mj_O (md_ck (decide (¬ y = 0)) E) P) pc ls (.long y :: .long x :: st) h := mj_ckU (fun hc => mj_lrem C hd (of_decide_eq_true hc) kk)
theorem mj_istore_n (C : Cx K Y cs cc own mL f lo) {k : Fin 4} {i : Nat} {x : Int32} (l' : List (Nat × Value)) (hd : decode cc pc = .ok (.istore_n k, 1)) (hi : (k : Nat) = i) (hn : i < mL) (hl : (i, .int x) :: ls.filter (fun q => !(q.1 == i) && !(q.1 + 1 == i && q.2.category == 2)) = l') (kk : J SH K Y cs X (pc + 1) l' st h) : J SH K Y cs X pc ls (.int x :: st) h := by
  obtain ⟨p, e, R, s, m, args, below, meth, c, Q, nL⟩ := Y
  obtain ⟨hx, hb, hml, hown, hts, hK, hce, hcs, hfr, hlo, hnl⟩ := C
  intro hX H locs la hP hS hL
  exact lv_istore_n hx hb hd hi hL (by rw [hnl]; exact hn) hl (fun la hL => kk hX H locs la hP hS hL)
theorem mj_istore_nL {β : Type} {P : β → Prop} {k : Int32 → Option β} (C : Cx K Y cs cc own mL f lo) {k0 : Fin 4} {i : Nat} {x : Int32} (l' : Int32 → List (Nat × Value)) (hd : decode cc pc = .ok (.istore_n k0, 1)) (hi : (k0 : Nat) = i) (hn : i < mL) (hl : (i, .int x) :: ls.filter (fun q => !(q.1 == i) && !(q.1 + 1 == i && q.2.category == 2)) = l' x) (kk : ∀ v : Int32, J SH K Y cs (mj_O (k v) P) (pc + 1) (l' v) st h) : J SH K Y cs (mj_O (md_lt x k) P) pc ls (.int x :: st) h := mj_istore_n C (l' x) hd hi hn hl (kk x)
theorem mj_istore (C : Cx K Y cs cc own mL f lo)  {i : Nat} {x : Int32} (l' : List (Nat × Value)) (hd : decode cc pc = .ok (.istore i, 2))  (hn : i < mL) (hl : (i, .int x) :: ls.filter (fun q => !(q.1 == i) && !(q.1 + 1 == i && q.2.category == 2)) = l') (kk : J SH K Y cs X (pc + 2) l' st h) : J SH K Y cs X pc ls (.int x :: st) h := by
  obtain ⟨p, e, R, s, m, args, below, meth, c, Q, nL⟩ := Y
  obtain ⟨hx, hb, hml, hown, hts, hK, hce, hcs, hfr, hlo, hnl⟩ := C
  intro hX H locs la hP hS hL
  exact lv_istore hx hb hd hL (by rw [hnl]; exact hn) hl (fun la hL => kk hX H locs la hP hS hL)
theorem mj_istoreL {β : Type} {P : β → Prop} {k : Int32 → Option β} (C : Cx K Y cs cc own mL f lo)  {i : Nat} {x : Int32} (l' : Int32 → List (Nat × Value)) (hd : decode cc pc = .ok (.istore i, 2))  (hn : i < mL) (hl : (i, .int x) :: ls.filter (fun q => !(q.1 == i) && !(q.1 + 1 == i && q.2.category == 2)) = l' x) (kk : ∀ v : Int32, J SH K Y cs (mj_O (k v) P) (pc + 2) (l' v) st h) : J SH K Y cs (mj_O (md_lt x k) P) pc ls (.int x :: st) h := mj_istore C (l' x) hd hn hl (kk x)
theorem mj_astore_n (C : Cx K Y cs cc own mL f lo) {k : Fin 4} {i x : Nat} (l' : List (Nat × Value)) (hd : decode cc pc = .ok (.astore_n k, 1)) (hi : (k : Nat) = i) (hn : i < mL) (hl : (i, rf K x) :: ls.filter (fun q => !(q.1 == i) && !(q.1 + 1 == i && q.2.category == 2)) = l') (kk : J SH K Y cs X (pc + 1) l' st h) : J SH K Y cs X pc ls (rf K x :: st) h := by
  obtain ⟨p, e, R, s, m, args, below, meth, c, Q, nL⟩ := Y
  obtain ⟨hx, hb, hml, hown, hts, hK, hce, hcs, hfr, hlo, hnl⟩ := C
  intro hX H locs la hP hS hL
  exact lv_astore_n hx hb hd hi hL (by rw [hnl]; exact hn) hl (fun la hL => kk hX H locs la hP hS hL)
theorem mj_lstore_n (C : Cx K Y cs cc own mL f lo) {k : Fin 4} {i : Nat} {x : Int64} (l' : List (Nat × Value)) (hd : decode cc pc = .ok (.lstore_n k, 1)) (hi : (k : Nat) = i) (hn : i + 1 < mL) (hl : (i, .long x) :: ls.filter (fun q => !(q.1 == i) && (!(q.1 == i + 1) && !(q.1 + 1 == i && q.2.category == 2))) = l') (kk : J SH K Y cs X (pc + 1) l' st h) : J SH K Y cs X pc ls (.long x :: st) h := by
  obtain ⟨p, e, R, s, m, args, below, meth, c, Q, nL⟩ := Y
  obtain ⟨hx, hb, hml, hown, hts, hK, hce, hcs, hfr, hlo, hnl⟩ := C
  intro hX H locs la hP hS hL
  exact lv_lstore_n hx hb hd hi hL (by rw [hnl]; exact hn) hl (fun la hL => kk hX H locs la hP hS hL)
theorem mj_lstore_nL {β : Type} {P : β → Prop} {k : Int64 → Option β} (C : Cx K Y cs cc own mL f lo) {k0 : Fin 4} {i : Nat} {x : Int64} (l' : Int64 → List (Nat × Value)) (hd : decode cc pc = .ok (.lstore_n k0, 1)) (hi : (k0 : Nat) = i) (hn : i + 1 < mL) (hl : (i, .long x) :: ls.filter (fun q => !(q.1 == i) && (!(q.1 == i + 1) && !(q.1 + 1 == i && q.2.category == 2))) = l' x) (kk : ∀ v : Int64, J SH K Y cs (mj_O (k v) P) (pc + 1) (l' v) st h) : J SH K Y cs (mj_O (md_lt x k) P) pc ls (.long x :: st) h := mj_lstore_n C (l' x) hd hi hn hl (kk x)
theorem mj_iinc (C : Cx K Y cs cc own mL f lo) {i : Nat} {n : Int} {x : Int32} (v : Int32) (q : Nat) (l' : List (Nat × Value)) (hd : decode cc pc = .ok (.iinc i n, 3)) (hk : ls[q]? = some (i, .int x)) (hv : x + Int32.ofInt n = v) (hn : i < mL) (hl : (i, .int v) :: ls.filter (fun q => !(q.1 == i) && !(q.1 + 1 == i && q.2.category == 2)) = l') (kk : J SH K Y cs X (pc + 3) l' st h) : J SH K Y cs X pc ls st h := by
  obtain ⟨p, e, R, s, m, args, below, meth, c, Q, nL⟩ := Y
  obtain ⟨hx, hb, hml, hown, hts, hK, hce, hcs, hfr, hlo, hnl⟩ := C
  intro hX H locs la hP hS hL
  exact lv_iinc hx hb hd hL hk hv (by rw [hnl]; exact hn) hl (fun la hL => kk hX H locs la hP hS hL)
theorem mj_if_eq {α : Type} {A B : Option α} {P : α → Prop} (C : Cx K Y cs cc own mL f lo) {x : Int32} {off : Int} (tgt : Nat) (hd : decode cc pc = .ok (.ifCond .eq off, 3)) (ht : (pc : Int) + off = (tgt : Int)) (kt : J SH K Y cs (mj_O A P) tgt ls st h) (kf : J SH K Y cs (mj_O B P) (pc + 3) ls st h) : J SH K Y cs (mj_O (if x = 0 then A else B) P) pc ls (.int x :: st) h := by
  obtain ⟨p, e, R, s, m, args, below, meth, c, Q, nL⟩ := Y
  obtain ⟨hx, hb, hml, hown, hts, hK, hce, hcs, hfr, hlo, hnl⟩ := C
  intro hX H locs la hP hS hL
  exact lv_if_eq hx hb hd ht (fun c1 => kt (by rwa [if_pos c1] at hX) H locs la hP hS hL) (fun c1 => kf (by rwa [if_neg c1] at hX) H locs la hP hS hL)
theorem mj_icmp_eq {α : Type} {A B : Option α} {P : α → Prop} (C : Cx K Y cs cc own mL f lo) {x y : Int32} {off : Int} (tgt : Nat) (hd : decode cc pc = .ok (.if_icmp .eq off, 3)) (ht : (pc : Int) + off = (tgt : Int)) (kt : J SH K Y cs (mj_O A P) tgt ls st h) (kf : J SH K Y cs (mj_O B P) (pc + 3) ls st h) : J SH K Y cs (mj_O (if x = y then A else B) P) pc ls (.int y :: .int x :: st) h := by
  obtain ⟨p, e, R, s, m, args, below, meth, c, Q, nL⟩ := Y
  obtain ⟨hx, hb, hml, hown, hts, hK, hce, hcs, hfr, hlo, hnl⟩ := C
  intro hX H locs la hP hS hL
  exact lv_icmp_eq hx hb hd ht (fun c1 => kt (by rwa [if_pos c1] at hX) H locs la hP hS hL) (fun c1 => kf (by rwa [if_neg c1] at hX) H locs la hP hS hL)
theorem mj_if_ne {α : Type} {A B : Option α} {P : α → Prop} (C : Cx K Y cs cc own mL f lo) {x : Int32} {off : Int} (tgt : Nat) (hd : decode cc pc = .ok (.ifCond .ne off, 3)) (ht : (pc : Int) + off = (tgt : Int)) (kt : J SH K Y cs (mj_O B P) tgt ls st h) (kf : J SH K Y cs (mj_O A P) (pc + 3) ls st h) : J SH K Y cs (mj_O (if x = 0 then A else B) P) pc ls (.int x :: st) h := by
  obtain ⟨p, e, R, s, m, args, below, meth, c, Q, nL⟩ := Y
  obtain ⟨hx, hb, hml, hown, hts, hK, hce, hcs, hfr, hlo, hnl⟩ := C
  intro hX H locs la hP hS hL
  exact lv_if_ne hx hb hd ht (fun c1 => kt (by rwa [if_neg c1] at hX) H locs la hP hS hL) (fun c1 => kf (by rwa [if_pos c1] at hX) H locs la hP hS hL)
theorem mj_icmp_ne {α : Type} {A B : Option α} {P : α → Prop} (C : Cx K Y cs cc own mL f lo) {x y : Int32} {off : Int} (tgt : Nat) (hd : decode cc pc = .ok (.if_icmp .ne off, 3)) (ht : (pc : Int) + off = (tgt : Int)) (kt : J SH K Y cs (mj_O B P) tgt ls st h) (kf : J SH K Y cs (mj_O A P) (pc + 3) ls st h) : J SH K Y cs (mj_O (if x = y then A else B) P) pc ls (.int y :: .int x :: st) h := by
  obtain ⟨p, e, R, s, m, args, below, meth, c, Q, nL⟩ := Y
  obtain ⟨hx, hb, hml, hown, hts, hK, hce, hcs, hfr, hlo, hnl⟩ := C
  intro hX H locs la hP hS hL
  exact lv_icmp_ne hx hb hd ht (fun c1 => kt (by rwa [if_neg c1] at hX) H locs la hP hS hL) (fun c1 => kf (by rwa [if_pos c1] at hX) H locs la hP hS hL)
theorem mj_if_lt {α : Type} {A B : Option α} {P : α → Prop} (C : Cx K Y cs cc own mL f lo) {x : Int32} {off : Int} (tgt : Nat) (hd : decode cc pc = .ok (.ifCond .lt off, 3)) (ht : (pc : Int) + off = (tgt : Int)) (kt : J SH K Y cs (mj_O A P) tgt ls st h) (kf : J SH K Y cs (mj_O B P) (pc + 3) ls st h) : J SH K Y cs (mj_O (if x < 0 then A else B) P) pc ls (.int x :: st) h := by
  obtain ⟨p, e, R, s, m, args, below, meth, c, Q, nL⟩ := Y
  obtain ⟨hx, hb, hml, hown, hts, hK, hce, hcs, hfr, hlo, hnl⟩ := C
  intro hX H locs la hP hS hL
  exact lv_if_lt hx hb hd ht (fun c1 => kt (by rwa [if_pos c1] at hX) H locs la hP hS hL) (fun c1 => kf (by rwa [if_neg c1] at hX) H locs la hP hS hL)
theorem mj_icmp_lt {α : Type} {A B : Option α} {P : α → Prop} (C : Cx K Y cs cc own mL f lo) {x y : Int32} {off : Int} (tgt : Nat) (hd : decode cc pc = .ok (.if_icmp .lt off, 3)) (ht : (pc : Int) + off = (tgt : Int)) (kt : J SH K Y cs (mj_O A P) tgt ls st h) (kf : J SH K Y cs (mj_O B P) (pc + 3) ls st h) : J SH K Y cs (mj_O (if x < y then A else B) P) pc ls (.int y :: .int x :: st) h := by
  obtain ⟨p, e, R, s, m, args, below, meth, c, Q, nL⟩ := Y
  obtain ⟨hx, hb, hml, hown, hts, hK, hce, hcs, hfr, hlo, hnl⟩ := C
  intro hX H locs la hP hS hL
  exact lv_icmp_lt hx hb hd ht (fun c1 => kt (by rwa [if_pos c1] at hX) H locs la hP hS hL) (fun c1 => kf (by rwa [if_neg c1] at hX) H locs la hP hS hL)
theorem mj_if_ge {α : Type} {A B : Option α} {P : α → Prop} (C : Cx K Y cs cc own mL f lo) {x : Int32} {off : Int} (tgt : Nat) (hd : decode cc pc = .ok (.ifCond .ge off, 3)) (ht : (pc : Int) + off = (tgt : Int)) (kt : J SH K Y cs (mj_O A P) tgt ls st h) (kf : J SH K Y cs (mj_O B P) (pc + 3) ls st h) : J SH K Y cs (mj_O (if 0 ≤ x then A else B) P) pc ls (.int x :: st) h := by
  obtain ⟨p, e, R, s, m, args, below, meth, c, Q, nL⟩ := Y
  obtain ⟨hx, hb, hml, hown, hts, hK, hce, hcs, hfr, hlo, hnl⟩ := C
  intro hX H locs la hP hS hL
  exact lv_if_ge hx hb hd ht (fun c1 => kt (by rwa [if_pos c1] at hX) H locs la hP hS hL) (fun c1 => kf (by rwa [if_neg c1] at hX) H locs la hP hS hL)
theorem mj_icmp_ge {α : Type} {A B : Option α} {P : α → Prop} (C : Cx K Y cs cc own mL f lo) {x y : Int32} {off : Int} (tgt : Nat) (hd : decode cc pc = .ok (.if_icmp .ge off, 3)) (ht : (pc : Int) + off = (tgt : Int)) (kt : J SH K Y cs (mj_O A P) tgt ls st h) (kf : J SH K Y cs (mj_O B P) (pc + 3) ls st h) : J SH K Y cs (mj_O (if y ≤ x then A else B) P) pc ls (.int y :: .int x :: st) h := by
  obtain ⟨p, e, R, s, m, args, below, meth, c, Q, nL⟩ := Y
  obtain ⟨hx, hb, hml, hown, hts, hK, hce, hcs, hfr, hlo, hnl⟩ := C
  intro hX H locs la hP hS hL
  exact lv_icmp_ge hx hb hd ht (fun c1 => kt (by rwa [if_pos c1] at hX) H locs la hP hS hL) (fun c1 => kf (by rwa [if_neg c1] at hX) H locs la hP hS hL)
theorem mj_if_gt {α : Type} {A B : Option α} {P : α → Prop} (C : Cx K Y cs cc own mL f lo) {x : Int32} {off : Int} (tgt : Nat) (hd : decode cc pc = .ok (.ifCond .gt off, 3)) (ht : (pc : Int) + off = (tgt : Int)) (kt : J SH K Y cs (mj_O A P) tgt ls st h) (kf : J SH K Y cs (mj_O B P) (pc + 3) ls st h) : J SH K Y cs (mj_O (if 0 < x then A else B) P) pc ls (.int x :: st) h := by
  obtain ⟨p, e, R, s, m, args, below, meth, c, Q, nL⟩ := Y
  obtain ⟨hx, hb, hml, hown, hts, hK, hce, hcs, hfr, hlo, hnl⟩ := C
  intro hX H locs la hP hS hL
  exact lv_if_gt hx hb hd ht (fun c1 => kt (by rwa [if_pos c1] at hX) H locs la hP hS hL) (fun c1 => kf (by rwa [if_neg c1] at hX) H locs la hP hS hL)
theorem mj_icmp_gt {α : Type} {A B : Option α} {P : α → Prop} (C : Cx K Y cs cc own mL f lo) {x y : Int32} {off : Int} (tgt : Nat) (hd : decode cc pc = .ok (.if_icmp .gt off, 3)) (ht : (pc : Int) + off = (tgt : Int)) (kt : J SH K Y cs (mj_O A P) tgt ls st h) (kf : J SH K Y cs (mj_O B P) (pc + 3) ls st h) : J SH K Y cs (mj_O (if y < x then A else B) P) pc ls (.int y :: .int x :: st) h := by
  obtain ⟨p, e, R, s, m, args, below, meth, c, Q, nL⟩ := Y
  obtain ⟨hx, hb, hml, hown, hts, hK, hce, hcs, hfr, hlo, hnl⟩ := C
  intro hX H locs la hP hS hL
  exact lv_icmp_gt hx hb hd ht (fun c1 => kt (by rwa [if_pos c1] at hX) H locs la hP hS hL) (fun c1 => kf (by rwa [if_neg c1] at hX) H locs la hP hS hL)
theorem mj_if_le {α : Type} {A B : Option α} {P : α → Prop} (C : Cx K Y cs cc own mL f lo) {x : Int32} {off : Int} (tgt : Nat) (hd : decode cc pc = .ok (.ifCond .le off, 3)) (ht : (pc : Int) + off = (tgt : Int)) (kt : J SH K Y cs (mj_O A P) tgt ls st h) (kf : J SH K Y cs (mj_O B P) (pc + 3) ls st h) : J SH K Y cs (mj_O (if x ≤ 0 then A else B) P) pc ls (.int x :: st) h := by
  obtain ⟨p, e, R, s, m, args, below, meth, c, Q, nL⟩ := Y
  obtain ⟨hx, hb, hml, hown, hts, hK, hce, hcs, hfr, hlo, hnl⟩ := C
  intro hX H locs la hP hS hL
  exact lv_if_le hx hb hd ht (fun c1 => kt (by rwa [if_pos c1] at hX) H locs la hP hS hL) (fun c1 => kf (by rwa [if_neg c1] at hX) H locs la hP hS hL)
theorem mj_icmp_le {α : Type} {A B : Option α} {P : α → Prop} (C : Cx K Y cs cc own mL f lo) {x y : Int32} {off : Int} (tgt : Nat) (hd : decode cc pc = .ok (.if_icmp .le off, 3)) (ht : (pc : Int) + off = (tgt : Int)) (kt : J SH K Y cs (mj_O A P) tgt ls st h) (kf : J SH K Y cs (mj_O B P) (pc + 3) ls st h) : J SH K Y cs (mj_O (if x ≤ y then A else B) P) pc ls (.int y :: .int x :: st) h := by
  obtain ⟨p, e, R, s, m, args, below, meth, c, Q, nL⟩ := Y
  obtain ⟨hx, hb, hml, hown, hts, hK, hce, hcs, hfr, hlo, hnl⟩ := C
  intro hX H locs la hP hS hL
  exact lv_icmp_le hx hb hd ht (fun c1 => kt (by rwa [if_pos c1] at hX) H locs la hP hS hL) (fun c1 => kf (by rwa [if_neg c1] at hX) H locs la hP hS hL)
theorem mj_b_eq {α : Type} {A B : Option α} {P : α → Prop} (C : Cx K Y cs cc own mL f lo) {v : Bool} {off : Int} (tgt : Nat) (hd : decode cc pc = .ok (.ifCond .eq off, 3)) (ht : (pc : Int) + off = (tgt : Int)) (kt : J SH K Y cs (mj_O B P) tgt ls st h) (kf : J SH K Y cs (mj_O A P) (pc + 3) ls st h) : J SH K Y cs (mj_O (if v = true then A else B) P) pc ls (.int (md_bi v) :: st) h := by
  obtain ⟨p, e, R, s, m, args, below, meth, c, Q, nL⟩ := Y
  obtain ⟨hx, hb, hml, hown, hts, hK, hce, hcs, hfr, hlo, hnl⟩ := C
  intro hX H locs la hP hS hL
  exact lv_if_eq hx hb hd ht (fun c1 => kt (by rw [md_bi_0] at c1; subst c1; exact hX) H locs la hP hS hL) (fun c1 => kf (by rw [md_bi_0] at c1; rw [if_pos (by simpa using c1)] at hX; exact hX) H locs la hP hS hL)
theorem mj_b_ne {α : Type} {A B : Option α} {P : α → Prop} (C : Cx K Y cs cc own mL f lo) {v : Bool} {off : Int} (tgt : Nat) (hd : decode cc pc = .ok (.ifCond .ne off, 3)) (ht : (pc : Int) + off = (tgt : Int)) (kt : J SH K Y cs (mj_O A P) tgt ls st h) (kf : J SH K Y cs (mj_O B P) (pc + 3) ls st h) : J SH K Y cs (mj_O (if v = true then A else B) P) pc ls (.int (md_bi v) :: st) h := by
  obtain ⟨p, e, R, s, m, args, below, meth, c, Q, nL⟩ := Y
  obtain ⟨hx, hb, hml, hown, hts, hK, hce, hcs, hfr, hlo, hnl⟩ := C
  intro hX H locs la hP hS hL
  exact lv_if_ne hx hb hd ht (fun c1 => kt (by rw [md_bi_0] at c1; rw [if_pos (by simpa using c1)] at hX; exact hX) H locs la hP hS hL) (fun c1 => kf (by rw [md_bi_0] at c1; subst c1; exact hX) H locs la hP hS hL)
theorem mj_sw0 {α : Type} {E : Option α} {P : α → Prop} {x : Int32} (kk : J SH K Y cs (x ∉ ([] : List Int32) ∧ mj_O E P) pc ls (.int x :: st) h) : J SH K Y cs (mj_O E P) pc ls (.int x :: st) h := mj_X (fun q => ⟨List.not_mem_nil, q⟩) kk
theorem mj_tcase {α : Type} {A B : Option α} {P : α → Prop} (C : Cx K Y cs cc own mL f lo) {x : Int32} {L : List Int32} {dflt lw hg : Int} {offs : Array Int} {len : Nat} (v : Int32) (tgt : Nat) {off : Int} (hd : decode cc pc = .ok (.tableswitch dflt lw hg offs, len)) (h1 : ¬ v.toInt < lw) (h2 : ¬ hg < v.toInt) (ho : offs[(v.toInt - lw).toNat]? = some off) (ht : (pc : Int) + off = (tgt : Int)) (kt : J SH K Y cs (mj_O A P) tgt ls st h) (kf : J SH K Y cs (x ∉ v :: L ∧ mj_O B P) pc ls (.int x :: st) h) : J SH K Y cs (x ∉ L ∧ mj_O (if x = v then A else B) P) pc ls (.int x :: st) h := by
  by_cases hv : x = v
  · refine mj_X (X' := mj_O A P) (fun q => by have := q.2; rwa [if_pos hv] at this) ?_
    subst hv
    obtain ⟨p, e, R, s, m, args, below, meth, c, Q, nL⟩ := Y
    obtain ⟨hx, hb, hml, hown, hts, hK, hce, hcs, hfr, hlo, hnl⟩ := C
    intro hX H locs la hP hS hL
    exact lv_tableIn hx hb hd h1 h2 ho ht (kt hX H locs la hP hS hL)
  · exact mj_X (fun q => ⟨fun hm => (List.mem_cons.mp hm).elim hv q.1, by have := q.2; rwa [if_neg hv] at this⟩) kf
theorem mj_tdflt {α : Type} {E : Option α} {P : α → Prop} (C : Cx K Y cs cc own mL f lo) {x : Int32} {L : List Int32} {dflt lw hg : Int} {offs : Array Int} {len : Nat} (tgt n : Nat) (hd : decode cc pc = .ok (.tableswitch dflt lw hg offs, len)) (hcov : ∀ i : Nat, i < n → Int32.ofInt (lw + i) ∈ L) (hn : hg = lw + (n : Int) - 1) (ht : (pc : Int) + dflt = (tgt : Int)) (kk : J SH K Y cs (mj_O E P) tgt ls st h) : J SH K Y cs (x ∉ L ∧ mj_O E P) pc ls (.int x :: st) h := by
  obtain ⟨p, e, R, s, m, args, below, meth, c, Q, nL⟩ := Y
  obtain ⟨hx, hb, hml, hown, hts, hK, hce, hcs, hfr, hlo, hnl⟩ := C
  intro hX H locs la hP hS hL
  refine lv_tableOut hx hb hd ?_ ht (kk hX.2 H locs la hP hS hL)
  rcases Int.lt_or_le x.toInt lw with q | q
  · exact Or.inl q
  · rcases Int.lt_or_le hg x.toInt with q2 | q2
    · exact Or.inr q2
    · exfalso
      have h3 := hcov (x.toInt - lw).toNat (by omega)
      rw [show lw + ((x.toInt - lw).toNat : Int) = x.toInt by omega, Int32.ofInt_toInt] at h3
      exact hX.1 h3
theorem mj_lcase {α : Type} {A B : Option α} {P : α → Prop} (C : Cx K Y cs cc own mL f lo) {x : Int32} {L : List Int32} {dflt : Int} {ps : Array (Int × Int)} {len : Nat} (v : Int32) (tgt : Nat) {off : Int} (hd : decode cc pc = .ok (.lookupswitch dflt ps, len)) (hp : (ps.toList.zip (ps.toList.drop 1)).all (fun (a, next) => a.1 < next.1) = true) (ho : Op.lookupswitch.offset ps.toList dflt v.toInt = off) (ht : (pc : Int) + off = (tgt : Int)) (kt : J SH K Y cs (mj_O A P) tgt ls st h) (kf : J SH K Y cs (x ∉ v :: L ∧ mj_O B P) pc ls (.int x :: st) h) : J SH K Y cs (x ∉ L ∧ mj_O (if x = v then A else B) P) pc ls (.int x :: st) h := by
  by_cases hv : x = v
  · refine mj_X (X' := mj_O A P) (fun q => by have := q.2; rwa [if_pos hv] at this) ?_
    subst hv
    obtain ⟨p, e, R, s, m, args, below, meth, c, Q, nL⟩ := Y
    obtain ⟨hx, hb, hml, hown, hts, hK, hce, hcs, hfr, hlo, hnl⟩ := C
    intro hX H locs la hP hS hL
    exact lv_lookup hx hb hd hp ho ht (kt hX H locs la hP hS hL)
  · exact mj_X (fun q => ⟨fun hm => (List.mem_cons.mp hm).elim hv q.1, by have := q.2; rwa [if_neg hv] at this⟩) kf
theorem mj_ldflt {α : Type} {E : Option α} {P : α → Prop} (C : Cx K Y cs cc own mL f lo) {x : Int32} {L : List Int32} {dflt : Int} {ps : Array (Int × Int)} {len : Nat} (tgt : Nat) (hd : decode cc pc = .ok (.lookupswitch dflt ps, len)) (hp : (ps.toList.zip (ps.toList.drop 1)).all (fun (a, next) => a.1 < next.1) = true) (hcov : x ∉ L → Op.lookupswitch.offset ps.toList dflt x.toInt = dflt) (ht : (pc : Int) + dflt = (tgt : Int)) (kk : J SH K Y cs (mj_O E P) tgt ls st h) : J SH K Y cs (x ∉ L ∧ mj_O E P) pc ls (.int x :: st) h := by
  obtain ⟨p, e, R, s, m, args, below, meth, c, Q, nL⟩ := Y
  obtain ⟨hx, hb, hml, hown, hts, hK, hce, hcs, hfr, hlo, hnl⟩ := C
  intro hX H locs la hP hS hL
  exact lv_lookup hx hb hd hp (hcov hX.1) ht (kk hX.2 H locs la hP hS hL)
def FFd (own : String) (idx ci j : Nat) : Prop := ∃ (cn : String) (T : u_T) (N : Nat), vwCl[ci]? = some (cn, T, N) ∧ j < N ∧ (∀ w ∈ u_ws cn T N, w ∈ lw_ok) ∧ Cond.fieldLink own idx (T j).1 (T j).2.1 (T j).2.2.1 ∈ lw_ok
def FFp (own : String) (idx ci j : Nat) (ty : FieldType) : Prop := ∃ (cn : String) (T : u_T) (N : Nat) (ty0 : Nat → FieldType), vwCl[ci]? = some (cn, T, N) ∧ j < N ∧ (∀ w ∈ u_ws cn T N, w ∈ lw_ok) ∧ Cond.fieldLink own idx (T j).1 (T j).2.1 (T j).2.2.1 ∈ lw_ok ∧ (∀ k, k < N → parseFieldDescriptor (T k).2.2.1 = some (ty0 k)) ∧ (∀ a, a < N → ∀ b, b < N → a ≠ b → (T a).2.1 ≠ (T b).2.1) ∧ (T j).2.2.2 = false ∧ parseFieldDescriptor (T j).2.2.1 = some ty
theorem mj_getI (C : Cx K Y cs cc own mL f lo) {idx ci j k z : Nat} {ks : List (Nat × Nat)} (F : FFd own idx ci j) (hd : decode cc pc = .ok (.getfield idx, 3)) (hs : SH[k]? = some (.inl (ci, ks))) (hk : ks[j]? = some (0, z)) (kk : J SH K Y cs X (pc + 3) ls (.int (h k j) :: st) h) : J SH K Y cs X pc ls (rf K k :: st) h := by
  obtain ⟨p, e, R, s, m, args, below, meth, c, Q, nL⟩ := Y
  obtain ⟨hx, hb, hml, hown, hts, hK, hce, hcs, hfr, hlo, hnl⟩ := C
  intro hX H locs la hP hS hL
  obtain ⟨cn, T, N, f1, f2, f3, f4⟩ := F
  exact va_get hx hb hts f3 hown hK hP k (wl_at hs) f1 j f2 (hts _ f4) (fun _ h9 => h9) (by simp [List.getElem?_mapIdx, hk, fv]) hd (kk hX H locs la hP hS hL)
theorem mj_getR (C : Cx K Y cs cc own mL f lo) {idx ci j k q : Nat} {ks : List (Nat × Nat)} (F : FFd own idx ci j) (hd : decode cc pc = .ok (.getfield idx, 3)) (hs : SH[k]? = some (.inl (ci, ks))) (hk : ks[j]? = some (1, q)) (kk : J SH K Y cs X (pc + 3) ls (rf K q :: st) h) : J SH K Y cs X pc ls (rf K k :: st) h := by
  obtain ⟨p, e, R, s, m, args, below, meth, c, Q, nL⟩ := Y
  obtain ⟨hx, hb, hml, hown, hts, hK, hce, hcs, hfr, hlo, hnl⟩ := C
  intro hX H locs la hP hS hL
  obtain ⟨cn, T, N, f1, f2, f3, f4⟩ := F
  exact va_get hx hb hts f3 hown hK hP k (wl_at hs) f1 j f2 (hts _ f4) (fun _ h9 => h9) (by simp [List.getElem?_mapIdx, hk, fv]) hd (kk hX H locs la hP hS hL)
theorem mj_getM (C : Cx K Y cs cc own mL f lo) {idx ci j k z : Nat} {ks : List (Nat × Nat)} (F : FFd own idx ci j) (hd : decode cc pc = .ok (.getfield idx, 3)) (hs : SH[k]? = some (.inl (ci, ks))) (hk : ks[j]? = some (2, z)) (kk : J SH K Y cs X (pc + 3) ls (rf K (md_dx (h k j)) :: st) h) : J SH K Y cs X pc ls (rf K k :: st) h := by
  obtain ⟨p, e, R, s, m, args, below, meth, c, Q, nL⟩ := Y
  obtain ⟨hx, hb, hml, hown, hts, hK, hce, hcs, hfr, hlo, hnl⟩ := C
  intro hX H locs la hP hS hL
  obtain ⟨cn, T, N, f1, f2, f3, f4⟩ := F
  exact va_get hx hb hts f3 hown hK hP k (wl_at hs) f1 j f2 (hts _ f4) (fun _ h9 => h9) (by simp [List.getElem?_mapIdx, hk, fv]) hd (kk hX H locs la hP hS hL)
theorem mj_putL {β : Type} {P : β → Prop} {k' : Mm → Option β} (C : Cx K Y cs cc own mL f lo) {idx ci j k z : Nat} {ks : List (Nat × Nat)} {v : Int32} {ty : FieldType} (F : FFp own idx ci j ty) (hd : decode cc pc = .ok (.putfield idx, 3)) (hs : SH[k]? = some (.inl (ci, ks))) (hk : ks[j]? = some (0, z)) (hn : narrow ty (.int v) = .int v) (hf : fits ty (.int v) = true) (kk : ∀ h' : Mm, J SH K Y cs (mj_O (k' h') P) (pc + 3) ls st h') : J SH K Y cs (mj_O (md_lt (md_up h k j v) k') P) pc ls (.int v :: rf K k :: st) h := by
  have kk := kk (md_up h k j v)
  obtain ⟨p, e, R, s, m, args, below, meth, c, Q, nL⟩ := Y
  obtain ⟨hx, hb, hml, hown, hts, hK, hce, hcs, hfr, hlo, hnl⟩ := C
  intro hX H locs la hP hS hL
  obtain ⟨cn, T, N, ty0, f1, f2, f3, f4, f5, f6, f7, f8⟩ := F
  refine va_put hx hb hts f3 ty0 f5 f6 hown hK hP (wl_D SH K h) hS k (wl_at hs) f1 j f2 (hts _ f4) (fun _ h9 => h9) f7 f8 hn hf (by simp; exact (List.getElem?_eq_some_iff.mp hk).1) hd (fun H1 locs1 hP1 hD1 hS1 => ?_)
  rw [wl_set (j := j) (v := v) hs (ce_int hk)] at hP1
  exact kk hX H1 locs1 la hP1 hS1 hL
theorem mj_putM {β : Type} {P : β → Prop} {k' : Mm → Option β} (C : Cx K Y cs cc own mL f lo) {idx ci j k q z : Nat} {ks : List (Nat × Nat)} {ty : FieldType} (F : FFp own idx ci j ty) (hd : decode cc pc = .ok (.putfield idx, 3)) (hs : SH[k]? = some (.inl (ci, ks))) (hk : ks[j]? = some (2, z)) (hq : md_dx (md_ex q) = q) (hn : ∀ a, narrow ty (.ref a) = .ref a) (hf : ∀ a, fits ty (.ref a) = true) (kk : ∀ h' : Mm, J SH K Y cs (mj_O (k' h') P) (pc + 3) ls st h') : J SH K Y cs (mj_O (md_lt (md_up h k j (md_ex q)) k') P) pc ls (rf K q :: rf K k :: st) h := by
  have kk := kk (md_up h k j (md_ex q))
  obtain ⟨p, e, R, s, m, args, below, meth, c, Q, nL⟩ := Y
  obtain ⟨hx, hb, hml, hown, hts, hK, hce, hcs, hfr, hlo, hnl⟩ := C
  intro hX H locs la hP hS hL
  obtain ⟨cn, T, N, ty0, f1, f2, f3, f4, f5, f6, f7, f8⟩ := F
  refine va_put hx hb hts f3 ty0 f5 f6 hown hK hP (wl_D SH K h) hS k (wl_at hs) f1 j f2 (hts _ f4) (fun _ h9 => h9) f7 f8 (hn _) (hf _) (by simp; exact (List.getElem?_eq_some_iff.mp hk).1) hd (fun H1 locs1 hP1 hD1 hS1 => ?_)
  rw [wl_set (j := j) (v := md_ex q) hs (ce_ref hk hq)] at hP1
  exact kk hX H1 locs1 la hP1 hS1 hL
theorem mj_iald {α : Type} {E : Option α} {P : α → Prop} (C : Cx K Y cs cc own mL f lo) {k n : Nat} {u : Nat × Nat} {i : Int32} (hd : decode cc pc = .ok (.iaload, 1)) (hs : SH[k]? = some (.inr (0, n, u))) (kk : J SH K Y cs (mj_O E P) (pc + 1) ls (.int (h k i.toNatClampNeg) :: st) h) : J SH K Y cs (mj_O (md_ck (md_in i n) E) P) pc ls (.int i :: rf K k :: st) h := mj_ckU (fun hc => by
  obtain ⟨p, e, R, s, m, args, below, meth, c, Q, nL⟩ := Y
  obtain ⟨hx, hb, hml, hown, hts, hK, hce, hcs, hfr, hlo, hnl⟩ := C
  intro hX H locs la hP hS hL
  exact va_iald hx hb hK hP k 0 (wl_at hs) rfl (md_in_vp hc) hd (kk hX H locs la hP hS hL))
theorem mj_zald {α : Type} {E : Option α} {P : α → Prop} (C : Cx K Y cs cc own mL f lo) {k n : Nat} {u : Nat × Nat} {i : Int32} (hd : decode cc pc = .ok (.baload, 1)) (hs : SH[k]? = some (.inr (1, n, u))) (kk : J SH K Y cs (mj_O E P) (pc + 1) ls (.int (h k i.toNatClampNeg) :: st) h) : J SH K Y cs (mj_O (md_ck (md_in i n) E) P) pc ls (.int i :: rf K k :: st) h := mj_ckU (fun hc => by
  obtain ⟨p, e, R, s, m, args, below, meth, c, Q, nL⟩ := Y
  obtain ⟨hx, hb, hml, hown, hts, hK, hce, hcs, hfr, hlo, hnl⟩ := C
  intro hX H locs la hP hS hL
  exact va_zald hx hb hK hP k 1 (wl_at hs) rfl (md_in_vp hc) hd (kk hX H locs la hP hS hL))
theorem mj_aald {α : Type} {E : Option α} {P : α → Prop} (C : Cx K Y cs cc own mL f lo) {k n q : Nat} {i : Int32} (hd : decode cc pc = .ok (.aaload, 1)) (hs : SH[k]? = some (.inr (2, n, q, n))) (kk : md_in i n = true → J SH K Y cs (mj_O E P) (pc + 1) ls (rf K (q + 2 * i.toNatClampNeg) :: st) h) : J SH K Y cs (mj_O (md_ck (md_in i n) E) P) pc ls (.int i :: rf K k :: st) h := mj_ckU (fun hc => by
  have kk := kk hc
  obtain ⟨p, e, R, s, m, args, below, meth, c, Q, nL⟩ := Y
  obtain ⟨hx, hb, hml, hown, hts, hK, hce, hcs, hfr, hlo, hnl⟩ := C
  intro hX H locs la hP hS hL
  have hlt : i.toNatClampNeg < n := Nat.not_le.mp fun q => (md_in_vp hc) (Or.inr q)
  refine va_aldq hx hb hK hP k 2 (C := RX4) (wl_at hs) rfl (md_in_vp hc) hd ?_
  simp only [if_pos hlt, va_rf]
  exact (kk hX H locs la hP hS hL))
theorem mj_iast {β : Type} {P : β → Prop} {k' : Mm → Option β} (C : Cx K Y cs cc own mL f lo) {k n : Nat} {u : Nat × Nat} {i x : Int32} (hd : decode cc pc = .ok (.iastore, 1)) (hs : SH[k]? = some (.inr (0, n, u))) (kk : ∀ h' : Mm, J SH K Y cs (mj_O (k' h') P) (pc + 1) ls st h') : J SH K Y cs (mj_O (md_ck (md_in i n) (md_lt (md_up h k i.toNatClampNeg x) k')) P) pc ls (.int x :: .int i :: rf K k :: st) h := mj_ckU (fun hc => by
  have kk := kk (md_up h k i.toNatClampNeg x)
  obtain ⟨p, e, R, s, m, args, below, meth, c, Q, nL⟩ := Y
  obtain ⟨hx, hb, hml, hown, hts, hK, hce, hcs, hfr, hlo, hnl⟩ := C
  intro hX H locs la hP hS hL
  refine va_iast hx hb hK hP (wl_D SH K h) hS k 0 (wl_at hs) rfl (md_in_vp hc) hd (fun H1 locs1 hP1 hD1 hS1 => ?_)
  rw [wl_set (j := i.toNatClampNeg) (v := x) hs (by simp only [ce, up_s])] at hP1
  exact kk hX H1 locs1 la hP1 hS1 hL)
theorem mj_zast {β : Type} {P : β → Prop} {k' : Mm → Option β} (C : Cx K Y cs cc own mL f lo) {k n : Nat} {u : Nat × Nat} {i : Int32} {v : Bool} (hd : decode cc pc = .ok (.bastore, 1)) (hs : SH[k]? = some (.inr (1, n, u))) (kk : ∀ h' : Mm, J SH K Y cs (mj_O (k' h') P) (pc + 1) ls st h') : J SH K Y cs (mj_O (md_ck (md_in i n) (md_lt (md_up h k i.toNatClampNeg (md_bi v)) k')) P) pc ls (.int (md_bi v) :: .int i :: rf K k :: st) h := mj_ckU (fun hc => by
  have kk := kk (md_up h k i.toNatClampNeg (md_bi v))
  obtain ⟨p, e, R, s, m, args, below, meth, c, Q, nL⟩ := Y
  obtain ⟨hx, hb, hml, hown, hts, hK, hce, hcs, hfr, hlo, hnl⟩ := C
  intro hX H locs la hP hS hL
  refine va_zast hx hb hK hP (wl_D SH K h) hS k 1 (wl_at hs) rfl (md_in_vp hc) hd (fun H1 locs1 hP1 hD1 hS1 => ?_)
  rw [md_bi_nar, wl_set (j := i.toNatClampNeg) (v := md_bi v) hs (by simp only [ce, up_s])] at hP1
  exact kk hX H1 locs1 la hP1 hS1 hL)
theorem mj_mmin (C : Cx K Y cs cc own mL f lo) {idx : Nat} {x y : Int32} (hw : Cond.methodLink own idx Lib.Math.min.name ∈ lw_ok) (h2 : Cond.static Lib.Math.min.name ∈ lw_ok) (h3 : Cond.initialized "java/lang/Math" ∈ lw_ok) (h4 : Cond.code Lib.Math.min.name Lib.Math.min.code 2 (some .int) ∈ lw_ok) (hf1 : 1 ≤ f) (hl1 : (st.map fun v => v.category).sum + 13 ≤ lo) (hd : decode cc pc = .ok (.invokestatic idx, 3)) (kk : J SH K Y cs X (pc + 3) ls (.int (if y < x then y else x) :: st) h) : J SH K Y cs X pc ls (.int y :: .int x :: st) h := by
  obtain ⟨p, e, R, s, m, args, below, meth, c, Q, nL⟩ := Y
  obtain ⟨hx, hb, hml, hown, hts, hK, hce, hcs, hfr, hlo, hnl⟩ := C
  intro hX H locs la hP hS hL
  exact va_mmin hx hb (by rw [hml, hL.1]) hown (hts _ hw) (hts _ h2) (hts _ h3) (hts _ h4) (Nat.le_trans hf1 hfr) (Nat.le_trans hl1 hlo) hce hcs hd (kk hX H locs la hP hS hL)
theorem mj_mmax (C : Cx K Y cs cc own mL f lo) {idx : Nat} {x y : Int32} (hw : Cond.methodLink own idx Lib.Math.max.name ∈ lw_ok) (h2 : Cond.static Lib.Math.max.name ∈ lw_ok) (h3 : Cond.initialized "java/lang/Math" ∈ lw_ok) (h4 : Cond.code Lib.Math.max.name Lib.Math.max.code 2 (some .int) ∈ lw_ok) (hf1 : 1 ≤ f) (hl1 : (st.map fun v => v.category).sum + 13 ≤ lo) (hd : decode cc pc = .ok (.invokestatic idx, 3)) (kk : J SH K Y cs X (pc + 3) ls (.int (if x < y then y else x) :: st) h) : J SH K Y cs X pc ls (.int y :: .int x :: st) h := by
  obtain ⟨p, e, R, s, m, args, below, meth, c, Q, nL⟩ := Y
  obtain ⟨hx, hb, hml, hown, hts, hK, hce, hcs, hfr, hlo, hnl⟩ := C
  intro hX H locs la hP hS hL
  exact va_mmax hx hb (by rw [hml, hL.1]) hown (hts _ hw) (hts _ h2) (hts _ h3) (hts _ h4) (Nat.le_trans hf1 hfr) (Nat.le_trans hl1 hlo) hce hcs hd (kk hX H locs la hP hS hL)
end MJ
theorem lw_goodIn (ws : List Cond) (h : ∀ w ∈ ws, w ∈ lw_ok) : GoodIn lw_ok ws := fun w hw => ⟨h w hw, good_of_word (List.mem_filter.mp (h w hw)).2⟩
/-- what the tables say of a method: its code; its parameters' number -/
def MY (y : MethodName) (bs : ByteArray) (mL : Nat) (rt : Option FieldType) (n : Nat) : Prop := Cond.code y bs mL rt ∈ lw_ok ∧ y.cls ≠ "java/lang/invoke/MethodHandle" ∧ y.cls ≠ "java/lang/invoke/VarHandle" ∧ (parseMethodDescriptor y.desc).map (fun d => d.parameters.length) = some n ∧ Cond.initialized y.cls ∈ lw_ok
/-- what they say of an instance method's link; of a static one's -/
def MV (own : String) (idx : Nat) (y : MethodName) : Prop := Cond.methodLink own idx y ∈ lw_ok ∧ Cond.instanceMethod y ∈ lw_ok ∧ Cond.selects y.cls y y ∈ lw_ok
def MS (own : String) (idx : Nat) (y : MethodName) : Prop := Cond.methodLink own idx y ∈ lw_ok ∧ Cond.static y ∈ lw_ok
section MJC
variable {SH : List Sh} {K : Kx} {Y : Yx} {cs : Nat × Nat} {X : Prop} {pc : Nat} {ls : List (Nat × Value)} {st : List Value} {h : Mm} {cc : ByteArray} {own : String} {mL f lo : Nat}
theorem mj_goes {α β : Type} {P : β → Prop} {E : α → Option β} {rv : Option Value} {h' : Mm} {p : Program} {e : Env} {R : Room} {s : State} {m : MethodId} {args : Array Value} {below : List Frame} {meth : Method} {c : Code} {Q : State → Prop} {nL : Nat} {H : Heap} {locs : List Loc} {la : Array Slot} {a : α} {av : Array Value} {st0 : List Value} (hX : mj_O (E a) P) (hS : va_S (fun q => kb K ≤ q) s.heap H locs) (hL : lv_has la nL ls)
    (hr : va_Run p K.1 e R s m args below meth c H locs cs.1 cs.2 0 0 (F0 m pc la st0) st (Qj SH K rv h' av) (fun q => kb K ≤ q))
    (kk : J SH K (p, e, R, s, m, args, below, meth, c, Q, nL) cs (mj_O (E a) P) (pc + 3) ls (rv.toList ++ st) h') : W p K.1 e R s m args below meth c H locs cs.1 cs.2 Q (F0 m pc la st0) := by
  intro T hT X
  obtain ⟨v, st₀, t, T', L, h0, X', hL2, e1, e2, ⟨hq1, hq2, hq3⟩, stp⟩ := hr T hT X
  cases hq1
  rw [← e1] at hq2
  have hS' : va_S (fun q => kb K ≤ q) s.heap T'.heap (locs ++ L) := by
    obtain ⟨z1, z2⟩ := hq3
    rw [h0] at z1 z2
    rw [e1]
    refine ⟨Nat.le_trans hS.1 z1, fun q h1 h2 => (z2 q (Nat.lt_of_lt_of_le h1 hS.1) h2).trans (hS.2.1 q h1 h2), fun q hq => ?_⟩
    rcases List.mem_append.mp hq with h3 | h3
    · exact hS.2.2 q h3
    · exact hL2 q h3
  obtain ⟨t2, a1, b1⟩ := kk hX T'.heap (locs ++ L) la hq2 hS' hL T' rfl X'
  exact ⟨t2, stp t2 a1, b1⟩
theorem mj_callV {α β : Type} {P : β → Prop} {F : Option α} {E : α → Option β} {rv : α → Option Value} {hv : α → Mm} (C : Cx K Y cs cc own mL f lo) {idx ci k n mL' f' lo' : Nat} {ks : List (Nat × Nat)} {y : MethodName} {bs : ByteArray} {rt : Option FieldType} {as st0 : List Value}
    (M1 : MY y bs mL' rt n) (M2 : MV own idx y) (hd : decode cc pc = .ok (.invokevirtual idx, 3)) (hs : SH[k]? = some (.inl (ci, ks))) (hc : (vwCl[ci]?).map (fun q => q.1) = some y.cls)
    (hM : ∀ a, F = some a → Mt K y bs mL' rt f' lo' SH (rf K k :: as) h (rv a) (hv a)) (hf1 : f' + 1 ≤ f) (hl1 : 8 + (mL' + 11) + lo' ≤ lo) (hn : as.length = n) (hst : as.reverse ++ rf K k :: st = st0) (hW : (st.map fun v => v.category).sum ≤ 8)
    (kk : ∀ a, J SH K Y cs (mj_O (E a) P) (pc + 3) ls ((rv a).toList ++ st) (hv a)) : J SH K Y cs (mj_O (F.bind E) P) pc ls st0 h := by
  subst hst
  obtain ⟨p, e, R, s, m, args, below, meth, c, Q, nL⟩ := Y
  obtain ⟨hx, hb, hml, hown, hts, hK, hce, hcs, hfr, hlo, hnl⟩ := C
  intro hX H locs la hP hS hL
  obtain ⟨v, hb1, hv1⟩ := hX
  cases hF : F with
  | none => rw [hF] at hb1; cases hb1
  | some a =>
    rw [hF] at hb1
    obtain ⟨r, hr1, hr2⟩ := Option.map_eq_some_iff.mp hc
    have hG : GoodIn lw_ok (wsV own idx y.cls y (.code y bs mL' rt :: lw_ok)) := lw_goodIn _ (fun w hw => by
      simp only [wsV, List.cons_append, List.nil_append, List.mem_cons] at hw
      rcases hw with rfl | rfl | rfl | rfl | rfl | hw
      · exact M2.1
      · exact M2.2.1
      · exact M2.2.2
      · exact M1.2.2.2.2
      · exact M1.1
      · exact hw)
    refine mj_goes (E := E) (a := a) ⟨v, hb1, hv1⟩ hS hL (va_runV (As := as) (rest := st) (C := y.cls) ⟨hx, hb, hml, hown, hts⟩ (hM a hF) (cwV n hts hG rfl rfl rfl ⟨rfl, M1.2.1, M1.2.2.1, M1.2.2.2.1⟩ ⟨Nat.le_trans hf1 hfr, Nat.le_trans hl1 hlo⟩) ⟨fun a U g mk q => ?_, ?_, fun U hU hW => ?_⟩ rfl hn hL.1 rfl (lv_room hW) hd ⟨hce, hcs⟩) (kk a)
    · obtain ⟨q0, qP, qK⟩ := q
      exact ⟨q0, qP, va_K.moved (u := U) (U := U.calling g mk a) (Vm.Alike.refl U.vm) qK⟩
    · have h9 := va_recv hK hP hr1 (wl_at hs)
      rw [hr2] at h9
      exact h9
    · exact ⟨rfl, by rw [hU]; exact hP, va_K.moved hW.alike hK⟩
theorem mj_callS {α β : Type} {P : β → Prop} {F : Option α} {E : α → Option β} {rv : α → Option Value} {hv : α → Mm} (C : Cx K Y cs cc own mL f lo) {idx n mL' f' lo' : Nat} {y : MethodName} {bs : ByteArray} {rt : Option FieldType} {as st0 : List Value}
    (M1 : MY y bs mL' rt n) (M2 : MS own idx y) (hd : decode cc pc = .ok (.invokestatic idx, 3))
    (hM : ∀ a, F = some a → Mt K y bs mL' rt f' lo' SH as h (rv a) (hv a)) (hf1 : f' + 1 ≤ f) (hl1 : 8 + (mL' + 11) + lo' ≤ lo) (hn : as.length = n) (hst : as.reverse ++ st = st0) (hW : (st.map fun v => v.category).sum ≤ 8)
    (kk : ∀ a, J SH K Y cs (mj_O (E a) P) (pc + 3) ls ((rv a).toList ++ st) (hv a)) : J SH K Y cs (mj_O (F.bind E) P) pc ls st0 h := by
  subst hst
  obtain ⟨p, e, R, s, m, args, below, meth, c, Q, nL⟩ := Y
  obtain ⟨hx, hb, hml, hown, hts, hK, hce, hcs, hfr, hlo, hnl⟩ := C
  intro hX H locs la hP hS hL
  obtain ⟨v, hb1, hv1⟩ := hX
  cases hF : F with
  | none => rw [hF] at hb1; cases hb1
  | some a =>
    rw [hF] at hb1
    have hG : GoodIn lw_ok (va_wsS own idx y (.code y bs mL' rt :: lw_ok)) := lw_goodIn _ (fun w hw => by
      simp only [va_wsS, List.cons_append, List.nil_append, List.mem_cons] at hw
      rcases hw with rfl | rfl | rfl | rfl | hw
      · exact M2.1
      · exact M2.2
      · exact M1.2.2.2.2
      · exact M1.1
      · exact hw)
    refine mj_goes (E := E) (a := a) ⟨v, hb1, hv1⟩ hS hL (va_runS (As := as) (rest := st) ⟨hx, hb, hml, hown, hts⟩ (hM a hF) (va_cwS n hts hG rfl rfl rfl ⟨M1.2.1, M1.2.2.1, M1.2.2.2.1⟩ ⟨Nat.le_trans hf1 hfr, Nat.le_trans hl1 hlo⟩) ⟨fun a U g mk q => ?_, fun U hU hW => ?_⟩ rfl hn hL.1 rfl (lv_room hW) hd ⟨hce, hcs⟩) (kk a)
    · obtain ⟨q0, qP, qK⟩ := q
      exact ⟨q0, qP, va_K.moved (u := U) (U := U.calling g mk a) (Vm.Alike.refl U.vm) qK⟩
    · exact ⟨rfl, by rw [hU]; exact hP, va_K.moved hW.alike hK⟩
theorem mj_vI {β : Type} {P : β → Prop} {F : Option Int32} {E : Int32 → Option β} (C : Cx K Y cs cc own mL f lo) {idx ci k n mL' f' lo' : Nat} {ks : List (Nat × Nat)} {y : MethodName} {bs : ByteArray} {rt : Option FieldType} {as st0 : List Value} (M1 : MY y bs mL' rt n) (M2 : MV own idx y) (hd : decode cc pc = .ok (.invokevirtual idx, 3)) (hs : SH[k]? = some (.inl (ci, ks))) (hc : (vwCl[ci]?).map (fun q => q.1) = some y.cls) (hM : ∀ a : Int32, F = some a → Mt K y bs mL' rt f' lo' SH (rf K k :: as) h (some (.int a)) h) (hf1 : f' + 1 ≤ f) (hl1 : 8 + (mL' + 11) + lo' ≤ lo) (hn : as.length = n) (hst : as.reverse ++ rf K k :: st = st0) (hW : (st.map fun v => v.category).sum ≤ 8) (kk : ∀ r : Int32, J SH K Y cs (mj_O (E r) P) (pc + 3) ls (.int r :: st) h) : J SH K Y cs (mj_O (md_bd F E) P) pc ls st0 h := mj_callV (E := E) (rv := fun r => some (.int r)) (hv := fun _ => h) C M1 M2 hd hs hc hM hf1 hl1 hn hst hW (fun r => kk r)
theorem mj_sI {β : Type} {P : β → Prop} {F : Option Int32} {E : Int32 → Option β} (C : Cx K Y cs cc own mL f lo) {idx n mL' f' lo' : Nat} {y : MethodName} {bs : ByteArray} {rt : Option FieldType} {as st0 : List Value} (M1 : MY y bs mL' rt n) (M2 : MS own idx y) (hd : decode cc pc = .ok (.invokestatic idx, 3)) (hM : ∀ a : Int32, F = some a → Mt K y bs mL' rt f' lo' SH as h (some (.int a)) h) (hf1 : f' + 1 ≤ f) (hl1 : 8 + (mL' + 11) + lo' ≤ lo) (hn : as.length = n) (hst : as.reverse ++ st = st0) (hW : (st.map fun v => v.category).sum ≤ 8) (kk : ∀ r : Int32, J SH K Y cs (mj_O (E r) P) (pc + 3) ls (.int r :: st) h) : J SH K Y cs (mj_O (md_bd F E) P) pc ls st0 h := mj_callS (E := E) (rv := fun r => some (.int r)) (hv := fun _ => h) C M1 M2 hd hM hf1 hl1 hn hst hW (fun r => kk r)
theorem mj_vB {β : Type} {P : β → Prop} {F : Option Bool} {E : Bool → Option β} (C : Cx K Y cs cc own mL f lo) {idx ci k n mL' f' lo' : Nat} {ks : List (Nat × Nat)} {y : MethodName} {bs : ByteArray} {rt : Option FieldType} {as st0 : List Value} (M1 : MY y bs mL' rt n) (M2 : MV own idx y) (hd : decode cc pc = .ok (.invokevirtual idx, 3)) (hs : SH[k]? = some (.inl (ci, ks))) (hc : (vwCl[ci]?).map (fun q => q.1) = some y.cls) (hM : ∀ a : Bool, F = some a → Mt K y bs mL' rt f' lo' SH (rf K k :: as) h (some (.int (md_bi a))) h) (hf1 : f' + 1 ≤ f) (hl1 : 8 + (mL' + 11) + lo' ≤ lo) (hn : as.length = n) (hst : as.reverse ++ rf K k :: st = st0) (hW : (st.map fun v => v.category).sum ≤ 8) (kk : ∀ r : Bool, J SH K Y cs (mj_O (E r) P) (pc + 3) ls (.int (md_bi r) :: st) h) : J SH K Y cs (mj_O (md_bd F E) P) pc ls st0 h := mj_callV (E := E) (rv := fun r => some (.int (md_bi r))) (hv := fun _ => h) C M1 M2 hd hs hc hM hf1 hl1 hn hst hW (fun r => kk r)
theorem mj_sB {β : Type} {P : β → Prop} {F : Option Bool} {E : Bool → Option β} (C : Cx K Y cs cc own mL f lo) {idx n mL' f' lo' : Nat} {y : MethodName} {bs : ByteArray} {rt : Option FieldType} {as st0 : List Value} (M1 : MY y bs mL' rt n) (M2 : MS own idx y) (hd : decode cc pc = .ok (.invokestatic idx, 3)) (hM : ∀ a : Bool, F = some a → Mt K y bs mL' rt f' lo' SH as h (some (.int (md_bi a))) h) (hf1 : f' + 1 ≤ f) (hl1 : 8 + (mL' + 11) + lo' ≤ lo) (hn : as.length = n) (hst : as.reverse ++ st = st0) (hW : (st.map fun v => v.category).sum ≤ 8) (kk : ∀ r : Bool, J SH K Y cs (mj_O (E r) P) (pc + 3) ls (.int (md_bi r) :: st) h) : J SH K Y cs (mj_O (md_bd F E) P) pc ls st0 h := mj_callS (E := E) (rv := fun r => some (.int (md_bi r))) (hv := fun _ => h) C M1 M2 hd hM hf1 hl1 hn hst hW (fun r => kk r)
theorem mj_vM {β : Type} {P : β → Prop} {F : Option Mm} {E : Mm → Option β} (C : Cx K Y cs cc own mL f lo) {idx ci k n mL' f' lo' : Nat} {ks : List (Nat × Nat)} {y : MethodName} {bs : ByteArray} {rt : Option FieldType} {as st0 : List Value} (M1 : MY y bs mL' rt n) (M2 : MV own idx y) (hd : decode cc pc = .ok (.invokevirtual idx, 3)) (hs : SH[k]? = some (.inl (ci, ks))) (hc : (vwCl[ci]?).map (fun q => q.1) = some y.cls) (hM : ∀ a : Mm, F = some a → Mt K y bs mL' rt f' lo' SH (rf K k :: as) h none a) (hf1 : f' + 1 ≤ f) (hl1 : 8 + (mL' + 11) + lo' ≤ lo) (hn : as.length = n) (hst : as.reverse ++ rf K k :: st = st0) (hW : (st.map fun v => v.category).sum ≤ 8) (kk : ∀ r : Mm, J SH K Y cs (mj_O (E r) P) (pc + 3) ls (st) r) : J SH K Y cs (mj_O (md_bd F E) P) pc ls st0 h := mj_callV (E := E) (rv := fun _ => none) (hv := fun r => r) C M1 M2 hd hs hc hM hf1 hl1 hn hst hW (fun r => kk r)
theorem mj_sM {β : Type} {P : β → Prop} {F : Option Mm} {E : Mm → Option β} (C : Cx K Y cs cc own mL f lo) {idx n mL' f' lo' : Nat} {y : MethodName} {bs : ByteArray} {rt : Option FieldType} {as st0 : List Value} (M1 : MY y bs mL' rt n) (M2 : MS own idx y) (hd : decode cc pc = .ok (.invokestatic idx, 3)) (hM : ∀ a : Mm, F = some a → Mt K y bs mL' rt f' lo' SH as h none a) (hf1 : f' + 1 ≤ f) (hl1 : 8 + (mL' + 11) + lo' ≤ lo) (hn : as.length = n) (hst : as.reverse ++ st = st0) (hW : (st.map fun v => v.category).sum ≤ 8) (kk : ∀ r : Mm, J SH K Y cs (mj_O (E r) P) (pc + 3) ls (st) r) : J SH K Y cs (mj_O (md_bd F E) P) pc ls st0 h := mj_callS (E := E) (rv := fun _ => none) (hv := fun r => r) C M1 M2 hd hM hf1 hl1 hn hst hW (fun r => kk r)
theorem mj_vIM {β : Type} {P : β → Prop} {F : Option (Int32 × Mm)} {E : Int32 → Mm → Option β} (C : Cx K Y cs cc own mL f lo) {idx ci k n mL' f' lo' : Nat} {ks : List (Nat × Nat)} {y : MethodName} {bs : ByteArray} {rt : Option FieldType} {as st0 : List Value} (M1 : MY y bs mL' rt n) (M2 : MV own idx y) (hd : decode cc pc = .ok (.invokevirtual idx, 3)) (hs : SH[k]? = some (.inl (ci, ks))) (hc : (vwCl[ci]?).map (fun q => q.1) = some y.cls) (hM : ∀ a : Int32 × Mm, F = some a → Mt K y bs mL' rt f' lo' SH (rf K k :: as) h (some (.int a.1)) a.2) (hf1 : f' + 1 ≤ f) (hl1 : 8 + (mL' + 11) + lo' ≤ lo) (hn : as.length = n) (hst : as.reverse ++ rf K k :: st = st0) (hW : (st.map fun v => v.category).sum ≤ 8) (kk : ∀ (r : Int32) (h' : Mm), J SH K Y cs (mj_O (E r h') P) (pc + 3) ls (.int r :: st) h') : J SH K Y cs (mj_O (md_b2 F E) P) pc ls st0 h := mj_callV (E := fun q : Int32 × Mm => E q.1 q.2) (rv := fun q : Int32 × Mm => some (.int q.1)) (hv := fun q : Int32 × Mm => q.2) C M1 M2 hd hs hc hM hf1 hl1 hn hst hW (fun q => kk q.1 q.2)
theorem mj_sIM {β : Type} {P : β → Prop} {F : Option (Int32 × Mm)} {E : Int32 → Mm → Option β} (C : Cx K Y cs cc own mL f lo) {idx n mL' f' lo' : Nat} {y : MethodName} {bs : ByteArray} {rt : Option FieldType} {as st0 : List Value} (M1 : MY y bs mL' rt n) (M2 : MS own idx y) (hd : decode cc pc = .ok (.invokestatic idx, 3)) (hM : ∀ a : Int32 × Mm, F = some a → Mt K y bs mL' rt f' lo' SH as h (some (.int a.1)) a.2) (hf1 : f' + 1 ≤ f) (hl1 : 8 + (mL' + 11) + lo' ≤ lo) (hn : as.length = n) (hst : as.reverse ++ st = st0) (hW : (st.map fun v => v.category).sum ≤ 8) (kk : ∀ (r : Int32) (h' : Mm), J SH K Y cs (mj_O (E r h') P) (pc + 3) ls (.int r :: st) h') : J SH K Y cs (mj_O (md_b2 F E) P) pc ls st0 h := mj_callS (E := fun q : Int32 × Mm => E q.1 q.2) (rv := fun q : Int32 × Mm => some (.int q.1)) (hv := fun q : Int32 × Mm => q.2) C M1 M2 hd hM hf1 hl1 hn hst hW (fun q => kk q.1 q.2)
theorem mj_vBM {β : Type} {P : β → Prop} {F : Option (Bool × Mm)} {E : Bool → Mm → Option β} (C : Cx K Y cs cc own mL f lo) {idx ci k n mL' f' lo' : Nat} {ks : List (Nat × Nat)} {y : MethodName} {bs : ByteArray} {rt : Option FieldType} {as st0 : List Value} (M1 : MY y bs mL' rt n) (M2 : MV own idx y) (hd : decode cc pc = .ok (.invokevirtual idx, 3)) (hs : SH[k]? = some (.inl (ci, ks))) (hc : (vwCl[ci]?).map (fun q => q.1) = some y.cls) (hM : ∀ a : Bool × Mm, F = some a → Mt K y bs mL' rt f' lo' SH (rf K k :: as) h (some (.int (md_bi a.1))) a.2) (hf1 : f' + 1 ≤ f) (hl1 : 8 + (mL' + 11) + lo' ≤ lo) (hn : as.length = n) (hst : as.reverse ++ rf K k :: st = st0) (hW : (st.map fun v => v.category).sum ≤ 8) (kk : ∀ (r : Bool) (h' : Mm), J SH K Y cs (mj_O (E r h') P) (pc + 3) ls (.int (md_bi r) :: st) h') : J SH K Y cs (mj_O (md_b2 F E) P) pc ls st0 h := mj_callV (E := fun q : Bool × Mm => E q.1 q.2) (rv := fun q : Bool × Mm => some (.int (md_bi q.1))) (hv := fun q : Bool × Mm => q.2) C M1 M2 hd hs hc hM hf1 hl1 hn hst hW (fun q => kk q.1 q.2)
theorem mj_sBM {β : Type} {P : β → Prop} {F : Option (Bool × Mm)} {E : Bool → Mm → Option β} (C : Cx K Y cs cc own mL f lo) {idx n mL' f' lo' : Nat} {y : MethodName} {bs : ByteArray} {rt : Option FieldType} {as st0 : List Value} (M1 : MY y bs mL' rt n) (M2 : MS own idx y) (hd : decode cc pc = .ok (.invokestatic idx, 3)) (hM : ∀ a : Bool × Mm, F = some a → Mt K y bs mL' rt f' lo' SH as h (some (.int (md_bi a.1))) a.2) (hf1 : f' + 1 ≤ f) (hl1 : 8 + (mL' + 11) + lo' ≤ lo) (hn : as.length = n) (hst : as.reverse ++ st = st0) (hW : (st.map fun v => v.category).sum ≤ 8) (kk : ∀ (r : Bool) (h' : Mm), J SH K Y cs (mj_O (E r h') P) (pc + 3) ls (.int (md_bi r) :: st) h') : J SH K Y cs (mj_O (md_b2 F E) P) pc ls st0 h := mj_callS (E := fun q : Bool × Mm => E q.1 q.2) (rv := fun q : Bool × Mm => some (.int (md_bi q.1))) (hv := fun q : Bool × Mm => q.2) C M1 M2 hd hM hf1 hl1 hn hst hW (fun q => kk q.1 q.2)
theorem mj_vRM {β : Type} {P : β → Prop} {F : Option (Nat × Mm)} {E : Nat → Mm → Option β} (C : Cx K Y cs cc own mL f lo) {idx ci k n mL' f' lo' : Nat} {ks : List (Nat × Nat)} {y : MethodName} {bs : ByteArray} {rt : Option FieldType} {as st0 : List Value} (M1 : MY y bs mL' rt n) (M2 : MV own idx y) (hd : decode cc pc = .ok (.invokevirtual idx, 3)) (hs : SH[k]? = some (.inl (ci, ks))) (hc : (vwCl[ci]?).map (fun q => q.1) = some y.cls) (hM : ∀ a : Nat × Mm, F = some a → Mt K y bs mL' rt f' lo' SH (rf K k :: as) h (some (rf K a.1)) a.2) (hf1 : f' + 1 ≤ f) (hl1 : 8 + (mL' + 11) + lo' ≤ lo) (hn : as.length = n) (hst : as.reverse ++ rf K k :: st = st0) (hW : (st.map fun v => v.category).sum ≤ 8) (kk : ∀ (r : Nat) (h' : Mm), J SH K Y cs (mj_O (E r h') P) (pc + 3) ls (rf K r :: st) h') : J SH K Y cs (mj_O (md_b2 F E) P) pc ls st0 h := mj_callV (E := fun q : Nat × Mm => E q.1 q.2) (rv := fun q : Nat × Mm => some (rf K q.1)) (hv := fun q : Nat × Mm => q.2) C M1 M2 hd hs hc hM hf1 hl1 hn hst hW (fun q => kk q.1 q.2)
theorem mj_sRM {β : Type} {P : β → Prop} {F : Option (Nat × Mm)} {E : Nat → Mm → Option β} (C : Cx K Y cs cc own mL f lo) {idx n mL' f' lo' : Nat} {y : MethodName} {bs : ByteArray} {rt : Option FieldType} {as st0 : List Value} (M1 : MY y bs mL' rt n) (M2 : MS own idx y) (hd : decode cc pc = .ok (.invokestatic idx, 3)) (hM : ∀ a : Nat × Mm, F = some a → Mt K y bs mL' rt f' lo' SH as h (some (rf K a.1)) a.2) (hf1 : f' + 1 ≤ f) (hl1 : 8 + (mL' + 11) + lo' ≤ lo) (hn : as.length = n) (hst : as.reverse ++ st = st0) (hW : (st.map fun v => v.category).sum ≤ 8) (kk : ∀ (r : Nat) (h' : Mm), J SH K Y cs (mj_O (E r h') P) (pc + 3) ls (rf K r :: st) h') : J SH K Y cs (mj_O (md_b2 F E) P) pc ls st0 h := mj_callS (E := fun q : Nat × Mm => E q.1 q.2) (rv := fun q : Nat × Mm => some (rf K q.1)) (hv := fun q : Nat × Mm => q.2) C M1 M2 hd hM hf1 hl1 hn hst hW (fun q => kk q.1 q.2)
theorem mj_retI {x : Int32} (C : Cx K Y (0, 0) cc own mL f lo) (N : En SH K Y (some (.int x)) h (some .int)) (hd : decode cc pc = .ok (.ireturn, 1)) : J SH K Y (0, 0) X pc ls [.int x] h := by
  obtain ⟨p, e, R, s, m, args, below, meth, c, Q, nL⟩ := Y
  obtain ⟨hx, hb, hml, hown, hts, hK, hce, hcs, hfr, hlo, hnl⟩ := C
  obtain ⟨rfl, hrt, hlk⟩ := N
  intro hX H locs la hP hS hL
  exact W.iret hx hb hrt (fun t ht hW => ⟨rfl, by rw [ht]; exact hP, hS.F ht⟩) hS.2.2 hd hlk
theorem mj_retZ {x : Bool} (C : Cx K Y (0, 0) cc own mL f lo) (N : En SH K Y (some (.int (md_bi x))) h (some .boolean)) (hd : decode cc pc = .ok (.ireturn, 1)) : J SH K Y (0, 0) X pc ls [.int (md_bi x)] h := by
  obtain ⟨p, e, R, s, m, args, below, meth, c, Q, nL⟩ := Y
  obtain ⟨hx, hb, hml, hown, hts, hK, hce, hcs, hfr, hlo, hnl⟩ := C
  obtain ⟨rfl, hrt, hlk⟩ := N
  intro hX H locs la hP hS hL
  exact W.zret hx hb hrt (md_bi_narrow x) (fun t ht hW => ⟨rfl, by rw [ht]; exact hP, hS.F ht⟩) hS.2.2 hd hlk
theorem mj_retV (C : Cx K Y (0, 0) cc own mL f lo) (N : En SH K Y none h none) (hd : decode cc pc = .ok (.return_, 1)) : J SH K Y (0, 0) X pc ls [] h := by
  obtain ⟨p, e, R, s, m, args, below, meth, c, Q, nL⟩ := Y
  obtain ⟨hx, hb, hml, hown, hts, hK, hce, hcs, hfr, hlo, hnl⟩ := C
  obtain ⟨rfl, hrt, hlk⟩ := N
  intro hX H locs la hP hS hL
  exact W.vret hx hb hrt (fun t ht hW => ⟨rfl, by rw [ht]; exact hP, hS.F ht⟩) hS.2.2 hd hlk
theorem mj_retA {x : Nat} {cn : String} (C : Cx K Y (0, 0) cc own mL f lo) (N : En SH K Y (some (rf K x)) h (some (.object cn))) (hd : decode cc pc = .ok (.areturn, 1)) : J SH K Y (0, 0) X pc ls [rf K x] h := by
  obtain ⟨p, e, R, s, m, args, below, meth, c, Q, nL⟩ := Y
  obtain ⟨hx, hb, hml, hown, hts, hK, hce, hcs, hfr, hlo, hnl⟩ := C
  obtain ⟨rfl, hrt, hlk⟩ := N
  intro hX H locs la hP hS hL
  exact W.aret hx hb hrt (Or.inl ⟨_, rfl⟩) (Or.inr ⟨_, rfl⟩) (fun t ht hW => ⟨rfl, by rw [ht]; exact hP, hS.F ht⟩) hS.2.2 hd hlk
theorem mj_rI {r a : Int32} (C : Cx K Y (0, 0) cc own mL f lo) (N : En SH K Y (some (.int a)) h (some .int)) (hd : decode cc pc = .ok (.ireturn, 1)) : J SH K Y (0, 0) (mj_O (some r) (fun v => v = a)) pc ls [.int r] h := mj_use (fun q => by
  obtain ⟨_, h1, rfl⟩ := q
  cases h1
  exact mj_retI C N hd)
theorem mj_rZ {r a : Bool} (C : Cx K Y (0, 0) cc own mL f lo) (N : En SH K Y (some (.int (md_bi a))) h (some .boolean)) (hd : decode cc pc = .ok (.ireturn, 1)) : J SH K Y (0, 0) (mj_O (some r) (fun v => v = a)) pc ls [.int (md_bi r)] h := mj_use (fun q => by
  obtain ⟨_, h1, rfl⟩ := q
  cases h1
  exact mj_retZ C N hd)
theorem mj_rV {a : Mm} (C : Cx K Y (0, 0) cc own mL f lo) (N : En SH K Y none a none) (hd : decode cc pc = .ok (.return_, 1)) : J SH K Y (0, 0) (mj_O (some h) (fun v => v = a)) pc ls [] h := mj_use (fun q => by
  obtain ⟨_, h1, rfl⟩ := q
  cases h1
  exact mj_retV C N hd)
theorem mj_rIM {r : Int32} {a : Int32 × Mm} (C : Cx K Y (0, 0) cc own mL f lo) (N : En SH K Y (some (.int a.1)) a.2 (some .int)) (hd : decode cc pc = .ok (.ireturn, 1)) : J SH K Y (0, 0) (mj_O (some (r, h)) (fun v => v = a)) pc ls [.int r] h := mj_use (fun q => by
  obtain ⟨_, h1, rfl⟩ := q
  cases h1
  exact mj_retI C N hd)
theorem mj_rZM {r : Bool} {a : Bool × Mm} (C : Cx K Y (0, 0) cc own mL f lo) (N : En SH K Y (some (.int (md_bi a.1))) a.2 (some .boolean)) (hd : decode cc pc = .ok (.ireturn, 1)) : J SH K Y (0, 0) (mj_O (some (r, h)) (fun v => v = a)) pc ls [.int (md_bi r)] h := mj_use (fun q => by
  obtain ⟨_, h1, rfl⟩ := q
  cases h1
  exact mj_retZ C N hd)
theorem mj_rAM {r : Nat} {a : Nat × Mm} {cn : String} (C : Cx K Y (0, 0) cc own mL f lo) (N : En SH K Y (some (rf K a.1)) a.2 (some (.object cn))) (hd : decode cc pc = .ok (.areturn, 1)) : J SH K Y (0, 0) (mj_O (some (r, h)) (fun v => v = a)) pc ls [rf K r] h := mj_use (fun q => by
  obtain ⟨_, h1, rfl⟩ := q
  cases h1
  exact mj_retA C N hd)
end MJC
theorem mj_phi1 {SH : List Sh} {K : Kx} {Y : Yx} {cs : Nat × Nat} {pc : Nat} {ls : List (Nat × Value)} {st : List Value} {h : Mm} {α β : Type} {F : Option (α)} {k : α → Option β} {P : β → Prop} (pj : Nat) (l' : α → List (Nat × Value)) (s' : α → List Value) (h' : α → Mm) (ka : ∀ P' : α → Prop, (∀ v1, J SH K Y cs (P' v1) pj (l' v1) (s' v1) (h' v1)) → J SH K Y cs (mj_O F P') pc ls st h) (kk : ∀ v1, J SH K Y cs (mj_O (k v1) P) pj (l' v1) (s' v1) (h' v1)) : J SH K Y cs (mj_O (md_bd F k) P) pc ls st h := mj_bd (ka (fun q => mj_O (k q) P) kk)
theorem mj_phi2 {SH : List Sh} {K : Kx} {Y : Yx} {cs : Nat × Nat} {pc : Nat} {ls : List (Nat × Value)} {st : List Value} {h : Mm} {α γ β : Type} {F : Option (α × γ)} {k : α → γ → Option β} {P : β → Prop} (pj : Nat) (l' : α → γ → List (Nat × Value)) (s' : α → γ → List Value) (h' : α → γ → Mm) (ka : ∀ P' : α × γ → Prop, (∀ v1 v2, J SH K Y cs (P' (v1, v2)) pj (l' v1 v2) (s' v1 v2) (h' v1 v2)) → J SH K Y cs (mj_O F P') pc ls st h) (kk : ∀ v1 v2, J SH K Y cs (mj_O (k v1 v2) P) pj (l' v1 v2) (s' v1 v2) (h' v1 v2)) : J SH K Y cs (mj_O (md_b2 F k) P) pc ls st h := mj_b2 (ka (fun q => mj_O (k q.1 q.2) P) kk)
theorem mj_phi3 {SH : List Sh} {K : Kx} {Y : Yx} {cs : Nat × Nat} {pc : Nat} {ls : List (Nat × Value)} {st : List Value} {h : Mm} {α γ δ β : Type} {F : Option (α × γ × δ)} {k : α → γ → δ → Option β} {P : β → Prop} (pj : Nat) (l' : α → γ → δ → List (Nat × Value)) (s' : α → γ → δ → List Value) (h' : α → γ → δ → Mm) (ka : ∀ P' : α × γ × δ → Prop, (∀ v1 v2 v3, J SH K Y cs (P' (v1, v2, v3)) pj (l' v1 v2 v3) (s' v1 v2 v3) (h' v1 v2 v3)) → J SH K Y cs (mj_O F P') pc ls st h) (kk : ∀ v1 v2 v3, J SH K Y cs (mj_O (k v1 v2 v3) P) pj (l' v1 v2 v3) (s' v1 v2 v3) (h' v1 v2 v3)) : J SH K Y cs (mj_O (md_b3 F k) P) pc ls st h := mj_b3 (ka (fun q => mj_O (k q.1 q.2.1 q.2.2) P) kk)
theorem mj_phi4 {SH : List Sh} {K : Kx} {Y : Yx} {cs : Nat × Nat} {pc : Nat} {ls : List (Nat × Value)} {st : List Value} {h : Mm} {α γ δ ε β : Type} {F : Option (α × γ × δ × ε)} {k : α → γ → δ → ε → Option β} {P : β → Prop} (pj : Nat) (l' : α → γ → δ → ε → List (Nat × Value)) (s' : α → γ → δ → ε → List Value) (h' : α → γ → δ → ε → Mm) (ka : ∀ P' : α × γ × δ × ε → Prop, (∀ v1 v2 v3 v4, J SH K Y cs (P' (v1, v2, v3, v4)) pj (l' v1 v2 v3 v4) (s' v1 v2 v3 v4) (h' v1 v2 v3 v4)) → J SH K Y cs (mj_O F P') pc ls st h) (kk : ∀ v1 v2 v3 v4, J SH K Y cs (mj_O (k v1 v2 v3 v4) P) pj (l' v1 v2 v3 v4) (s' v1 v2 v3 v4) (h' v1 v2 v3 v4)) : J SH K Y cs (mj_O (md_b4 F k) P) pc ls st h := mj_b4 (ka (fun q => mj_O (k q.1 q.2.1 q.2.2.1 q.2.2.2) P) kk)
theorem mj_phi5 {SH : List Sh} {K : Kx} {Y : Yx} {cs : Nat × Nat} {pc : Nat} {ls : List (Nat × Value)} {st : List Value} {h : Mm} {α γ δ ε ζ β : Type} {F : Option (α × γ × δ × ε × ζ)} {k : α → γ → δ → ε → ζ → Option β} {P : β → Prop} (pj : Nat) (l' : α → γ → δ → ε → ζ → List (Nat × Value)) (s' : α → γ → δ → ε → ζ → List Value) (h' : α → γ → δ → ε → ζ → Mm) (ka : ∀ P' : α × γ × δ × ε × ζ → Prop, (∀ v1 v2 v3 v4 v5, J SH K Y cs (P' (v1, v2, v3, v4, v5)) pj (l' v1 v2 v3 v4 v5) (s' v1 v2 v3 v4 v5) (h' v1 v2 v3 v4 v5)) → J SH K Y cs (mj_O F P') pc ls st h) (kk : ∀ v1 v2 v3 v4 v5, J SH K Y cs (mj_O (k v1 v2 v3 v4 v5) P) pj (l' v1 v2 v3 v4 v5) (s' v1 v2 v3 v4 v5) (h' v1 v2 v3 v4 v5)) : J SH K Y cs (mj_O (md_b5 F k) P) pc ls st h := mj_b5 (ka (fun q => mj_O (k q.1 q.2.1 q.2.2.1 q.2.2.2.1 q.2.2.2.2) P) kk)
theorem mj_phiS {SH : List Sh} {K : Kx} {Y : Yx} {cs : Nat × Nat} {pc : Nat} {ls : List (Nat × Value)} {st : List Value} {h : Mm} {α γ β : Type} {F : Option (α ⊕ γ)} {k1 : α → Option β} {k2 : γ → Option β} {P : β → Prop} (p1 p2 : Nat) (l1 : α → List (Nat × Value)) (l2 : γ → List (Nat × Value)) (h1 : α → Mm) (h2 : γ → Mm) (ka : ∀ P' : α ⊕ γ → Prop, (∀ a, J SH K Y cs (P' (.inl a)) p1 (l1 a) [] (h1 a)) → (∀ a, J SH K Y cs (P' (.inr a)) p2 (l2 a) [] (h2 a)) → J SH K Y cs (mj_O F P') pc ls st h) (kk1 : ∀ a, J SH K Y cs (mj_O (k1 a) P) p1 (l1 a) [] (h1 a)) (kk2 : ∀ a, J SH K Y cs (mj_O (k2 a) P) p2 (l2 a) [] (h2 a)) : J SH K Y cs (mj_O (md_bS F k1 k2) P) pc ls st h := mj_bS (ka (mj_P2 k1 k2 P) kk1 kk2)
/-- fuel that no loop of the class uses up -/
def md_N : Nat := 100000000
end
section
theorem lw_s {w : Cond} (i : Nat) (h : (k2_sels lw_privs)[i]? = some w) (g : goodWord w = true) : w ∈ lw_ok := List.mem_filter.mpr ⟨List.mem_append_left _ (List.mem_of_getElem? h), g⟩
theorem lw_ta {w : Cond} (h : w ∈ tables_1) (g : goodWord w = true) : w ∈ lw_ok := List.mem_filter.mpr ⟨List.mem_append_right _ h, g⟩
theorem lw_i1 {w : Cond} (i : Nat) (h : tables_1_1[i]? = some w) (g : goodWord w = true) : w ∈ lw_ok := lw_ta (List.mem_append_left _ (List.mem_of_getElem? h)) g
theorem lw_i2 {w : Cond} (i : Nat) (h : tables_1_2[i]? = some w) (g : goodWord w = true) : w ∈ lw_ok := lw_ta (List.mem_append_right _ (List.mem_append_left _ (List.mem_of_getElem? h))) g
theorem lw_i3 {w : Cond} (i : Nat) (h : tables_1_3[i]? = some w) (g : goodWord w = true) : w ∈ lw_ok := lw_ta (List.mem_append_right _ (List.mem_append_right _ (List.mem_append_left _ (List.mem_of_getElem? h)))) g
theorem lw_i4 {w : Cond} (i : Nat) (h : tables_1_4[i]? = some w) (g : goodWord w = true) : w ∈ lw_ok := lw_ta (List.mem_append_right _ (List.mem_append_right _ (List.mem_append_right _ (List.mem_append_left _ (List.mem_of_getElem? h))))) g
theorem lw_i5 {w : Cond} (i : Nat) (h : tables_1_5[i]? = some w) (g : goodWord w = true) : w ∈ lw_ok := lw_ta (List.mem_append_right _ (List.mem_append_right _ (List.mem_append_right _ (List.mem_append_right _ (List.mem_of_getElem? h))))) g
def SHc : List Sh := [.inl (7, [(1, 1), (1, 13), (1, 15), (1, 57), (1, 65), (1, 70), (1, 73), (2, 0), (0, 0)]), .inl (6, [(1, 2), (0, 0), (0, 0), (0, 0), (0, 0), (0, 0), (2, 0)]), .inr (0, 240, 0, 0), .inl (1, [(0, 0), (0, 0), (0, 0), (0, 0), (1, 4), (0, 0), (1, 5), (1, 6), (1, 7), (0, 0), (1, 8), (1, 9), (1, 10), (0, 0), (0, 0), (1, 11), (1, 12)]), .inr (0, 8, 0, 0), .inr (0, 10, 0, 0), .inr (0, 10, 0, 0), .inr (0, 10, 0, 0), .inr (0, 10, 0, 0), .inr (0, 10, 0, 0), .inr (0, 10, 0, 0), .inr (0, 5, 0, 0), .inr (0, 256, 0, 0), .inl (4, [(1, 14), (0, 0), (0, 0), (0, 0), (0, 0)]), .inr (0, 5, 0, 0), .inl (3, [(1, 16), (0, 0), (0, 0)]), .inr (2, 20, 17, 20), .inl (4, [(1, 18), (0, 0), (0, 0), (0, 0), (0, 0)]), .inr (0, 5, 0, 0), .inl (4, [(1, 20), (0, 0), (0, 0), (0, 0), (0, 0)]), .inr (0, 5, 0, 0), .inl (4, [(1, 22), (0, 0), (0, 0), (0, 0), (0, 0)]), .inr (0, 5, 0, 0), .inl (4, [(1, 24), (0, 0), (0, 0), (0, 0), (0, 0)]), .inr (0, 5, 0, 0), .inl (4, [(1, 26), (0, 0), (0, 0), (0, 0), (0, 0)]), .inr (0, 5, 0, 0), .inl (4, [(1, 28), (0, 0), (0, 0), (0, 0), (0, 0)]), .inr (0, 5, 0, 0), .inl (4, [(1, 30), (0, 0), (0, 0), (0, 0), (0, 0)]), .inr (0, 5, 0, 0), .inl (4, [(1, 32), (0, 0), (0, 0), (0, 0), (0, 0)]), .inr (0, 5, 0, 0), .inl (4, [(1, 34), (0, 0), (0, 0), (0, 0), (0, 0)]), .inr (0, 5, 0, 0), .inl (4, [(1, 36), (0, 0), (0, 0), (0, 0), (0, 0)]), .inr (0, 5, 0, 0), .inl (4, [(1, 38), (0, 0), (0, 0), (0, 0), (0, 0)]), .inr (0, 5, 0, 0), .inl (4, [(1, 40), (0, 0), (0, 0), (0, 0), (0, 0)]), .inr (0, 5, 0, 0), .inl (4, [(1, 42), (0, 0), (0, 0), (0, 0), (0, 0)]), .inr (0, 5, 0, 0), .inl (4, [(1, 44), (0, 0), (0, 0), (0, 0), (0, 0)]), .inr (0, 5, 0, 0), .inl (4, [(1, 46), (0, 0), (0, 0), (0, 0), (0, 0)]), .inr (0, 5, 0, 0), .inl (4, [(1, 48), (0, 0), (0, 0), (0, 0), (0, 0)]), .inr (0, 5, 0, 0), .inl (4, [(1, 50), (0, 0), (0, 0), (0, 0), (0, 0)]), .inr (0, 5, 0, 0), .inl (4, [(1, 52), (0, 0), (0, 0), (0, 0), (0, 0)]), .inr (0, 5, 0, 0), .inl (4, [(1, 54), (0, 0), (0, 0), (0, 0), (0, 0)]), .inr (0, 5, 0, 0), .inl (4, [(1, 56), (0, 0), (0, 0), (0, 0), (0, 0)]), .inr (0, 5, 0, 0), .inl (2, [(1, 58), (1, 59), (1, 60)]), .inr (2, 2, 61, 2), .inr (0, 2, 0, 0), .inr (1, 2, 0, 0), .inl (4, [(1, 62), (0, 0), (0, 0), (0, 0), (0, 0)]), .inr (0, 5, 0, 0), .inl (4, [(1, 64), (0, 0), (0, 0), (0, 0), (0, 0)]), .inr (0, 5, 0, 0), .inl (5, [(1, 66), (1, 67), (1, 68), (1, 69), (0, 0), (0, 0), (0, 0), (0, 0)]), .inr (0, 6, 0, 0), .inr (0, 6, 0, 0), .inr (1, 6, 0, 0), .inr (0, 8, 0, 0), .inl (0, [(1, 71), (1, 72), (0, 0)]), .inr (0, 15, 0, 0), .inr (0, 15, 0, 0), .inr (0, 8, 0, 0), .inl (1, [(0, 0), (0, 0), (0, 0), (0, 0), (1, 75), (0, 0), (1, 76), (1, 77), (1, 78), (0, 0), (1, 79), (1, 80), (1, 81), (0, 0), (0, 0), (1, 82), (1, 83)]), .inr (0, 8, 0, 0), .inr (0, 10, 0, 0), .inr (0, 10, 0, 0), .inr (0, 10, 0, 0), .inr (0, 10, 0, 0), .inr (0, 10, 0, 0), .inr (0, 10, 0, 0), .inr (0, 5, 0, 0), .inr (0, 256, 0, 0), .inl (8, [(0, 0), (0, 0), (0, 0), (1, 85), (0, 0), (1, 86), (1, 87), (1, 88), (0, 0), (1, 89), (1, 90), (1, 91), (0, 0), (1, 92), (0, 0), (1, 93), (0, 0), (0, 0), (0, 0), (0, 0), (0, 0), (1, 94), (0, 0), (1, 95), (0, 0), (1, 96), (1, 97), (1, 98), (0, 0), (1, 99), (1, 100), (1, 101), (0, 0), (0, 0), (1, 102), (0, 0), (1, 103), (1, 104), (0, 0), (1, 105), (1, 106), (1, 107), (1, 108), (0, 0), (1, 109), (1, 110), (1, 111), (1, 112)]), .inr (0, 8, 0, 0), .inr (0, 10, 0, 0), .inr (0, 10, 0, 0), .inr (0, 10, 0, 0), .inr (0, 10, 0, 0), .inr (0, 10, 0, 0), .inr (0, 10, 0, 0), .inr (0, 9, 0, 0), .inr (0, 240, 0, 0), .inr (0, 2, 0, 0), .inr (0, 8, 0, 0), .inr (0, 10, 0, 0), .inr (0, 10, 0, 0), .inr (0, 10, 0, 0), .inr (0, 10, 0, 0), .inr (0, 10, 0, 0), .inr (0, 10, 0, 0), .inr (0, 5, 0, 0), .inr (0, 180, 0, 0), .inr (0, 8, 0, 0), .inr (0, 6, 0, 0), .inr (0, 6, 0, 0), .inr (1, 6, 0, 0), .inr (0, 8, 0, 0), .inr (0, 15, 0, 0), .inr (0, 15, 0, 0), .inr (0, 20, 0, 0), .inr (1, 2, 0, 0)]
theorem sh_0 : SHc[0]? = some (.inl (7, [(1, 1), (1, 13), (1, 15), (1, 57), (1, 65), (1, 70), (1, 73), (2, 0), (0, 0)])) := rfl
theorem sh_1 : SHc[1]? = some (.inl (6, [(1, 2), (0, 0), (0, 0), (0, 0), (0, 0), (0, 0), (2, 0)])) := rfl
theorem sh_2 : SHc[2]? = some (.inr (0, 240, 0, 0)) := rfl
theorem sh_3 : SHc[3]? = some (.inl (1, [(0, 0), (0, 0), (0, 0), (0, 0), (1, 4), (0, 0), (1, 5), (1, 6), (1, 7), (0, 0), (1, 8), (1, 9), (1, 10), (0, 0), (0, 0), (1, 11), (1, 12)])) := rfl
theorem sh_4 : SHc[4]? = some (.inr (0, 8, 0, 0)) := rfl
theorem sh_5 : SHc[5]? = some (.inr (0, 10, 0, 0)) := rfl
theorem sh_6 : SHc[6]? = some (.inr (0, 10, 0, 0)) := rfl
theorem sh_7 : SHc[7]? = some (.inr (0, 10, 0, 0)) := rfl
theorem sh_8 : SHc[8]? = some (.inr (0, 10, 0, 0)) := rfl
theorem sh_9 : SHc[9]? = some (.inr (0, 10, 0, 0)) := rfl
theorem sh_10 : SHc[10]? = some (.inr (0, 10, 0, 0)) := rfl
theorem sh_11 : SHc[11]? = some (.inr (0, 5, 0, 0)) := rfl
theorem sh_12 : SHc[12]? = some (.inr (0, 256, 0, 0)) := rfl
theorem sh_13 : SHc[13]? = some (.inl (4, [(1, 14), (0, 0), (0, 0), (0, 0), (0, 0)])) := rfl
theorem sh_14 : SHc[14]? = some (.inr (0, 5, 0, 0)) := rfl
theorem sh_15 : SHc[15]? = some (.inl (3, [(1, 16), (0, 0), (0, 0)])) := rfl
theorem sh_16 : SHc[16]? = some (.inr (2, 20, 17, 20)) := rfl
theorem sh_17 : SHc[17]? = some (.inl (4, [(1, 18), (0, 0), (0, 0), (0, 0), (0, 0)])) := rfl
theorem sh_18 : SHc[18]? = some (.inr (0, 5, 0, 0)) := rfl
theorem sh_19 : SHc[19]? = some (.inl (4, [(1, 20), (0, 0), (0, 0), (0, 0), (0, 0)])) := rfl
theorem sh_20 : SHc[20]? = some (.inr (0, 5, 0, 0)) := rfl
theorem sh_21 : SHc[21]? = some (.inl (4, [(1, 22), (0, 0), (0, 0), (0, 0), (0, 0)])) := rfl
theorem sh_22 : SHc[22]? = some (.inr (0, 5, 0, 0)) := rfl
theorem sh_23 : SHc[23]? = some (.inl (4, [(1, 24), (0, 0), (0, 0), (0, 0), (0, 0)])) := rfl
theorem sh_24 : SHc[24]? = some (.inr (0, 5, 0, 0)) := rfl
theorem sh_25 : SHc[25]? = some (.inl (4, [(1, 26), (0, 0), (0, 0), (0, 0), (0, 0)])) := rfl
theorem sh_26 : SHc[26]? = some (.inr (0, 5, 0, 0)) := rfl
theorem sh_27 : SHc[27]? = some (.inl (4, [(1, 28), (0, 0), (0, 0), (0, 0), (0, 0)])) := rfl
theorem sh_28 : SHc[28]? = some (.inr (0, 5, 0, 0)) := rfl
theorem sh_29 : SHc[29]? = some (.inl (4, [(1, 30), (0, 0), (0, 0), (0, 0), (0, 0)])) := rfl
theorem sh_30 : SHc[30]? = some (.inr (0, 5, 0, 0)) := rfl
theorem sh_31 : SHc[31]? = some (.inl (4, [(1, 32), (0, 0), (0, 0), (0, 0), (0, 0)])) := rfl
theorem sh_32 : SHc[32]? = some (.inr (0, 5, 0, 0)) := rfl
theorem sh_33 : SHc[33]? = some (.inl (4, [(1, 34), (0, 0), (0, 0), (0, 0), (0, 0)])) := rfl
theorem sh_34 : SHc[34]? = some (.inr (0, 5, 0, 0)) := rfl
theorem sh_35 : SHc[35]? = some (.inl (4, [(1, 36), (0, 0), (0, 0), (0, 0), (0, 0)])) := rfl
theorem sh_36 : SHc[36]? = some (.inr (0, 5, 0, 0)) := rfl
theorem sh_37 : SHc[37]? = some (.inl (4, [(1, 38), (0, 0), (0, 0), (0, 0), (0, 0)])) := rfl
theorem sh_38 : SHc[38]? = some (.inr (0, 5, 0, 0)) := rfl
theorem sh_39 : SHc[39]? = some (.inl (4, [(1, 40), (0, 0), (0, 0), (0, 0), (0, 0)])) := rfl
theorem sh_40 : SHc[40]? = some (.inr (0, 5, 0, 0)) := rfl
theorem sh_41 : SHc[41]? = some (.inl (4, [(1, 42), (0, 0), (0, 0), (0, 0), (0, 0)])) := rfl
theorem sh_42 : SHc[42]? = some (.inr (0, 5, 0, 0)) := rfl
theorem sh_43 : SHc[43]? = some (.inl (4, [(1, 44), (0, 0), (0, 0), (0, 0), (0, 0)])) := rfl
theorem sh_44 : SHc[44]? = some (.inr (0, 5, 0, 0)) := rfl
theorem sh_45 : SHc[45]? = some (.inl (4, [(1, 46), (0, 0), (0, 0), (0, 0), (0, 0)])) := rfl
theorem sh_46 : SHc[46]? = some (.inr (0, 5, 0, 0)) := rfl
theorem sh_47 : SHc[47]? = some (.inl (4, [(1, 48), (0, 0), (0, 0), (0, 0), (0, 0)])) := rfl
theorem sh_48 : SHc[48]? = some (.inr (0, 5, 0, 0)) := rfl
theorem sh_49 : SHc[49]? = some (.inl (4, [(1, 50), (0, 0), (0, 0), (0, 0), (0, 0)])) := rfl
theorem sh_50 : SHc[50]? = some (.inr (0, 5, 0, 0)) := rfl
theorem sh_51 : SHc[51]? = some (.inl (4, [(1, 52), (0, 0), (0, 0), (0, 0), (0, 0)])) := rfl
theorem sh_52 : SHc[52]? = some (.inr (0, 5, 0, 0)) := rfl
theorem sh_53 : SHc[53]? = some (.inl (4, [(1, 54), (0, 0), (0, 0), (0, 0), (0, 0)])) := rfl
theorem sh_54 : SHc[54]? = some (.inr (0, 5, 0, 0)) := rfl
theorem sh_55 : SHc[55]? = some (.inl (4, [(1, 56), (0, 0), (0, 0), (0, 0), (0, 0)])) := rfl
theorem sh_56 : SHc[56]? = some (.inr (0, 5, 0, 0)) := rfl
theorem sh_57 : SHc[57]? = some (.inl (2, [(1, 58), (1, 59), (1, 60)])) := rfl
theorem sh_58 : SHc[58]? = some (.inr (2, 2, 61, 2)) := rfl
theorem sh_59 : SHc[59]? = some (.inr (0, 2, 0, 0)) := rfl
theorem sh_60 : SHc[60]? = some (.inr (1, 2, 0, 0)) := rfl
theorem sh_61 : SHc[61]? = some (.inl (4, [(1, 62), (0, 0), (0, 0), (0, 0), (0, 0)])) := rfl
theorem sh_62 : SHc[62]? = some (.inr (0, 5, 0, 0)) := rfl
theorem sh_63 : SHc[63]? = some (.inl (4, [(1, 64), (0, 0), (0, 0), (0, 0), (0, 0)])) := rfl
theorem sh_64 : SHc[64]? = some (.inr (0, 5, 0, 0)) := rfl
theorem sh_65 : SHc[65]? = some (.inl (5, [(1, 66), (1, 67), (1, 68), (1, 69), (0, 0), (0, 0), (0, 0), (0, 0)])) := rfl
theorem sh_66 : SHc[66]? = some (.inr (0, 6, 0, 0)) := rfl
theorem sh_67 : SHc[67]? = some (.inr (0, 6, 0, 0)) := rfl
theorem sh_68 : SHc[68]? = some (.inr (1, 6, 0, 0)) := rfl
theorem sh_69 : SHc[69]? = some (.inr (0, 8, 0, 0)) := rfl
theorem sh_70 : SHc[70]? = some (.inl (0, [(1, 71), (1, 72), (0, 0)])) := rfl
theorem sh_71 : SHc[71]? = some (.inr (0, 15, 0, 0)) := rfl
theorem sh_72 : SHc[72]? = some (.inr (0, 15, 0, 0)) := rfl
theorem sh_73 : SHc[73]? = some (.inr (0, 8, 0, 0)) := rfl
theorem sh_74 : SHc[74]? = some (.inl (1, [(0, 0), (0, 0), (0, 0), (0, 0), (1, 75), (0, 0), (1, 76), (1, 77), (1, 78), (0, 0), (1, 79), (1, 80), (1, 81), (0, 0), (0, 0), (1, 82), (1, 83)])) := rfl
theorem sh_75 : SHc[75]? = some (.inr (0, 8, 0, 0)) := rfl
theorem sh_76 : SHc[76]? = some (.inr (0, 10, 0, 0)) := rfl
theorem sh_77 : SHc[77]? = some (.inr (0, 10, 0, 0)) := rfl
theorem sh_78 : SHc[78]? = some (.inr (0, 10, 0, 0)) := rfl
theorem sh_79 : SHc[79]? = some (.inr (0, 10, 0, 0)) := rfl
theorem sh_80 : SHc[80]? = some (.inr (0, 10, 0, 0)) := rfl
theorem sh_81 : SHc[81]? = some (.inr (0, 10, 0, 0)) := rfl
theorem sh_82 : SHc[82]? = some (.inr (0, 5, 0, 0)) := rfl
theorem sh_83 : SHc[83]? = some (.inr (0, 256, 0, 0)) := rfl
theorem sh_84 : SHc[84]? = some (.inl (8, [(0, 0), (0, 0), (0, 0), (1, 85), (0, 0), (1, 86), (1, 87), (1, 88), (0, 0), (1, 89), (1, 90), (1, 91), (0, 0), (1, 92), (0, 0), (1, 93), (0, 0), (0, 0), (0, 0), (0, 0), (0, 0), (1, 94), (0, 0), (1, 95), (0, 0), (1, 96), (1, 97), (1, 98), (0, 0), (1, 99), (1, 100), (1, 101), (0, 0), (0, 0), (1, 102), (0, 0), (1, 103), (1, 104), (0, 0), (1, 105), (1, 106), (1, 107), (1, 108), (0, 0), (1, 109), (1, 110), (1, 111), (1, 112)])) := rfl
theorem sh_85 : SHc[85]? = some (.inr (0, 8, 0, 0)) := rfl
theorem sh_86 : SHc[86]? = some (.inr (0, 10, 0, 0)) := rfl
theorem sh_87 : SHc[87]? = some (.inr (0, 10, 0, 0)) := rfl
theorem sh_88 : SHc[88]? = some (.inr (0, 10, 0, 0)) := rfl
theorem sh_89 : SHc[89]? = some (.inr (0, 10, 0, 0)) := rfl
theorem sh_90 : SHc[90]? = some (.inr (0, 10, 0, 0)) := rfl
theorem sh_91 : SHc[91]? = some (.inr (0, 10, 0, 0)) := rfl
theorem sh_92 : SHc[92]? = some (.inr (0, 9, 0, 0)) := rfl
theorem sh_93 : SHc[93]? = some (.inr (0, 240, 0, 0)) := rfl
theorem sh_94 : SHc[94]? = some (.inr (0, 2, 0, 0)) := rfl
theorem sh_95 : SHc[95]? = some (.inr (0, 8, 0, 0)) := rfl
theorem sh_96 : SHc[96]? = some (.inr (0, 10, 0, 0)) := rfl
theorem sh_97 : SHc[97]? = some (.inr (0, 10, 0, 0)) := rfl
theorem sh_98 : SHc[98]? = some (.inr (0, 10, 0, 0)) := rfl
theorem sh_99 : SHc[99]? = some (.inr (0, 10, 0, 0)) := rfl
theorem sh_100 : SHc[100]? = some (.inr (0, 10, 0, 0)) := rfl
theorem sh_101 : SHc[101]? = some (.inr (0, 10, 0, 0)) := rfl
theorem sh_102 : SHc[102]? = some (.inr (0, 5, 0, 0)) := rfl
theorem sh_103 : SHc[103]? = some (.inr (0, 180, 0, 0)) := rfl
theorem sh_104 : SHc[104]? = some (.inr (0, 8, 0, 0)) := rfl
theorem sh_105 : SHc[105]? = some (.inr (0, 6, 0, 0)) := rfl
theorem sh_106 : SHc[106]? = some (.inr (0, 6, 0, 0)) := rfl
theorem sh_107 : SHc[107]? = some (.inr (1, 6, 0, 0)) := rfl
theorem sh_108 : SHc[108]? = some (.inr (0, 8, 0, 0)) := rfl
theorem sh_109 : SHc[109]? = some (.inr (0, 15, 0, 0)) := rfl
theorem sh_110 : SHc[110]? = some (.inr (0, 15, 0, 0)) := rfl
theorem sh_111 : SHc[111]? = some (.inr (0, 20, 0, 0)) := rfl
theorem sh_112 : SHc[112]? = some (.inr (1, 2, 0, 0)) := rfl
def isCnt (c : Nat) : Prop := c = 3 ∨ c = 74
theorem cnt_dx (v : Int32) : isCnt (md_dx v) := by
  unfold md_dx isCnt
  split
  · exact Or.inl rfl
  · exact Or.inr rfl
theorem cnt_ex {c : Nat} (hc : isCnt c) : md_dx (md_ex c) = c := by
  rcases hc with rfl | rfl <;> rfl
theorem cn_4 {c : Nat} (hc : isCnt c) : SHc[c + 1]? = some (.inr (0, 8, 0, 0)) := by
  rcases hc with rfl | rfl <;> rfl
theorem cn_6 {c : Nat} (hc : isCnt c) : SHc[c + 2]? = some (.inr (0, 10, 0, 0)) := by
  rcases hc with rfl | rfl <;> rfl
theorem cn_7 {c : Nat} (hc : isCnt c) : SHc[c + 3]? = some (.inr (0, 10, 0, 0)) := by
  rcases hc with rfl | rfl <;> rfl
theorem cn_8 {c : Nat} (hc : isCnt c) : SHc[c + 4]? = some (.inr (0, 10, 0, 0)) := by
  rcases hc with rfl | rfl <;> rfl
theorem cn_10 {c : Nat} (hc : isCnt c) : SHc[c + 5]? = some (.inr (0, 10, 0, 0)) := by
  rcases hc with rfl | rfl <;> rfl
theorem cn_11 {c : Nat} (hc : isCnt c) : SHc[c + 6]? = some (.inr (0, 10, 0, 0)) := by
  rcases hc with rfl | rfl <;> rfl
theorem cn_12 {c : Nat} (hc : isCnt c) : SHc[c + 7]? = some (.inr (0, 10, 0, 0)) := by
  rcases hc with rfl | rfl <;> rfl
theorem cn_15 {c : Nat} (hc : isCnt c) : SHc[c + 8]? = some (.inr (0, 5, 0, 0)) := by
  rcases hc with rfl | rfl <;> rfl
theorem cn_16 {c : Nat} (hc : isCnt c) : SHc[c + 9]? = some (.inr (0, 256, 0, 0)) := by
  rcases hc with rfl | rfl <;> rfl
theorem cn_o {c : Nat} (hc : isCnt c) : SHc[c]? = some (.inl (1, [(0, 0), (0, 0), (0, 0), (0, 0), (1, c + 1), (0, 0), (1, c + 2), (1, c + 3), (1, c + 4), (0, 0), (1, c + 5), (1, c + 6), (1, c + 7), (0, 0), (0, 0), (1, c + 8), (1, c + 9)])) := by
  rcases hc with rfl | rfl <;> rfl
def isPst (c : Nat) : Prop := c = 13 ∨ (∃ j, j < 20 ∧ c = 17 + 2 * j) ∨ ∃ j, j < 2 ∧ c = 61 + 2 * j
theorem ps_o_a : ∀ j, j < 20 → SHc[17 + 2 * j]? = some (.inl (4, [(1, 17 + 2 * j + 1), (0, 0), (0, 0), (0, 0), (0, 0)])) ∧ SHc[17 + 2 * j + 1]? = some (.inr (0, 5, 0, 0)) := by
  intro j hj
  rcases (by omega : j = 0 ∨ j = 1 ∨ j = 2 ∨ j = 3 ∨ j = 4 ∨ j = 5 ∨ j = 6 ∨ j = 7 ∨ j = 8 ∨ j = 9 ∨ j = 10 ∨ j = 11 ∨ j = 12 ∨ j = 13 ∨ j = 14 ∨ j = 15 ∨ j = 16 ∨ j = 17 ∨ j = 18 ∨ j = 19) with rfl | rfl | rfl | rfl | rfl | rfl | rfl | rfl | rfl | rfl | rfl | rfl | rfl | rfl | rfl | rfl | rfl | rfl | rfl | rfl <;> exact ⟨rfl, rfl⟩
theorem ps_o_b : ∀ j, j < 2 → SHc[61 + 2 * j]? = some (.inl (4, [(1, 61 + 2 * j + 1), (0, 0), (0, 0), (0, 0), (0, 0)])) ∧ SHc[61 + 2 * j + 1]? = some (.inr (0, 5, 0, 0)) := by
  intro j hj
  rcases (by omega : j = 0 ∨ j = 1) with rfl | rfl <;> exact ⟨rfl, rfl⟩
theorem ps_o {c : Nat} (hc : isPst c) : SHc[c]? = some (.inl (4, [(1, c + 1), (0, 0), (0, 0), (0, 0), (0, 0)])) := by
  rcases hc with rfl | ⟨j, hj, rfl⟩ | ⟨j, hj, rfl⟩
  · rfl
  · exact (ps_o_a j hj).1
  · exact (ps_o_b j hj).1
theorem ps_0 {c : Nat} (hc : isPst c) : SHc[c + 1]? = some (.inr (0, 5, 0, 0)) := by
  rcases hc with rfl | ⟨j, hj, rfl⟩ | ⟨j, hj, rfl⟩
  · rfl
  · exact (ps_o_a j hj).2
  · exact (ps_o_b j hj).2
theorem ps_13 : isPst 13 := Or.inl rfl
theorem ps_ring {i : Int32} (h : md_in i 20 = true) : isPst (17 + 2 * i.toNatClampNeg) := Or.inr (Or.inl ⟨_, Nat.not_le.mp fun q => (md_in_vp h) (Or.inr q), rfl⟩)
theorem ps_img {i : Int32} (h : md_in i 2 = true) : isPst (61 + 2 * i.toNatClampNeg) := Or.inr (Or.inr ⟨_, Nat.not_le.mp fun q => (md_in_vp h) (Or.inr q), rfl⟩)
theorem okX0 : ∀ w ∈ u_ws RX0 TX0 3, w ∈ lw_ok := fun w hw => List.mem_filter.mpr ⟨inX0 w hw, List.all_eq_true.mp (by decide +kernel : (u_ws RX0 TX0 3).all goodWord = true) w hw⟩
theorem okX1 : ∀ w ∈ u_ws RX1 TX1 17, w ∈ lw_ok := fun w hw => List.mem_filter.mpr ⟨inX1 w hw, List.all_eq_true.mp (by decide +kernel : (u_ws RX1 TX1 17).all goodWord = true) w hw⟩
theorem okX2 : ∀ w ∈ u_ws RX2 TX2 3, w ∈ lw_ok := fun w hw => List.mem_filter.mpr ⟨inX2 w hw, List.all_eq_true.mp (by decide +kernel : (u_ws RX2 TX2 3).all goodWord = true) w hw⟩
theorem okX3 : ∀ w ∈ u_ws RX3 TX3 3, w ∈ lw_ok := fun w hw => List.mem_filter.mpr ⟨inX3 w hw, List.all_eq_true.mp (by decide +kernel : (u_ws RX3 TX3 3).all goodWord = true) w hw⟩
theorem okX4 : ∀ w ∈ u_ws RX4 TX4 5, w ∈ lw_ok := fun w hw => List.mem_filter.mpr ⟨inX4 w hw, List.all_eq_true.mp (by decide +kernel : (u_ws RX4 TX4 5).all goodWord = true) w hw⟩
theorem okX5 : ∀ w ∈ u_ws RX5 TX5 8, w ∈ lw_ok := fun w hw => List.mem_filter.mpr ⟨inX5 w hw, List.all_eq_true.mp (by decide +kernel : (u_ws RX5 TX5 8).all goodWord = true) w hw⟩
theorem okX6 : ∀ w ∈ u_ws RX6 TX6 7, w ∈ lw_ok := fun w hw => List.mem_filter.mpr ⟨inX6 w hw, List.all_eq_true.mp (by decide +kernel : (u_ws RX6 TX6 7).all goodWord = true) w hw⟩
theorem okX7 : ∀ w ∈ u_ws RX7 TX7 9, w ∈ lw_ok := fun w hw => List.mem_filter.mpr ⟨inX7 w hw, List.all_eq_true.mp (by decide +kernel : (u_ws RX7 TX7 9).all goodWord = true) w hw⟩
theorem okX8 : ∀ w ∈ u_ws RX8 TX8 48, w ∈ lw_ok := fun w hw => List.mem_filter.mpr ⟨inX8 w hw, List.all_eq_true.mp (by decide +kernel : (u_ws RX8 TX8 48).all goodWord = true) w hw⟩
theorem fl_X0_9 : Cond.fieldLink RX0 9 (TX0 0).1 (TX0 0).2.1 (TX0 0).2.2.1 ∈ lw_ok := lw_i2 8 rfl rfl
theorem ff_X0_9 : FFd RX0 9 0 0 := ⟨_, _, _, rfl, by decide, okX0, fl_X0_9⟩
theorem fl_X0_15 : Cond.fieldLink RX0 15 (TX0 1).1 (TX0 1).2.1 (TX0 1).2.2.1 ∈ lw_ok := lw_i2 9 rfl rfl
theorem ff_X0_15 : FFd RX0 15 0 1 := ⟨_, _, _, rfl, by decide, okX0, fl_X0_15⟩
theorem fl_X0_18 : Cond.fieldLink RX0 18 (TX0 2).1 (TX0 2).2.1 (TX0 2).2.2.1 ∈ lw_ok := lw_i2 10 rfl rfl
theorem ff_X0_18 : FFd RX0 18 0 2 := ⟨_, _, _, rfl, by decide, okX0, fl_X0_18⟩
theorem fp_X0_18 : FFp RX0 18 0 2 .int := ⟨_, _, _, tyX0, rfl, by decide, okX0, fl_X0_18, tyX0_ok, nmX0, rfl, by decide +kernel⟩
theorem fl_X1_9 : Cond.fieldLink RX1 9 (TX1 4).1 (TX1 4).2.1 (TX1 4).2.2.1 ∈ lw_ok := lw_i1 44 rfl rfl
theorem ff_X1_9 : FFd RX1 9 1 4 := ⟨_, _, _, rfl, by decide, okX1, fl_X1_9⟩
theorem fl_X1_15 : Cond.fieldLink RX1 15 (TX1 6).1 (TX1 6).2.1 (TX1 6).2.2.1 ∈ lw_ok := lw_i1 50 rfl rfl
theorem ff_X1_15 : FFd RX1 15 1 6 := ⟨_, _, _, rfl, by decide, okX1, fl_X1_15⟩
theorem fl_X1_18 : Cond.fieldLink RX1 18 (TX1 7).1 (TX1 7).2.1 (TX1 7).2.2.1 ∈ lw_ok := lw_i1 52 rfl rfl
theorem ff_X1_18 : FFd RX1 18 1 7 := ⟨_, _, _, rfl, by decide, okX1, fl_X1_18⟩
theorem fl_X1_21 : Cond.fieldLink RX1 21 (TX1 8).1 (TX1 8).2.1 (TX1 8).2.2.1 ∈ lw_ok := lw_i1 54 rfl rfl
theorem ff_X1_21 : FFd RX1 21 1 8 := ⟨_, _, _, rfl, by decide, okX1, fl_X1_21⟩
theorem fl_X1_24 : Cond.fieldLink RX1 24 (TX1 10).1 (TX1 10).2.1 (TX1 10).2.2.1 ∈ lw_ok := lw_i1 59 rfl rfl
theorem ff_X1_24 : FFd RX1 24 1 10 := ⟨_, _, _, rfl, by decide, okX1, fl_X1_24⟩
theorem fl_X1_27 : Cond.fieldLink RX1 27 (TX1 11).1 (TX1 11).2.1 (TX1 11).2.2.1 ∈ lw_ok := lw_i1 62 rfl rfl
theorem ff_X1_27 : FFd RX1 27 1 11 := ⟨_, _, _, rfl, by decide, okX1, fl_X1_27⟩
theorem fl_X1_30 : Cond.fieldLink RX1 30 (TX1 12).1 (TX1 12).2.1 (TX1 12).2.2.1 ∈ lw_ok := lw_i1 65 rfl rfl
theorem ff_X1_30 : FFd RX1 30 1 12 := ⟨_, _, _, rfl, by decide, okX1, fl_X1_30⟩
theorem fl_X1_33 : Cond.fieldLink RX1 33 (TX1 15).1 (TX1 15).2.1 (TX1 15).2.2.1 ∈ lw_ok := lw_i1 74 rfl rfl
theorem fl_X1_36 : Cond.fieldLink RX1 36 (TX1 16).1 (TX1 16).2.1 (TX1 16).2.2.1 ∈ lw_ok := lw_i1 77 rfl rfl
theorem ff_X1_36 : FFd RX1 36 1 16 := ⟨_, _, _, rfl, by decide, okX1, fl_X1_36⟩
theorem fl_X1_39 : Cond.fieldLink RX1 39 (TX1 0).1 (TX1 0).2.1 (TX1 0).2.2.1 ∈ lw_ok := lw_i1 32 rfl rfl
theorem fp_X1_39 : FFp RX1 39 1 0 .boolean := ⟨_, _, _, tyX1, rfl, by decide, okX1, fl_X1_39, tyX1_ok, nmX1, rfl, by decide +kernel⟩
theorem fl_X1_43 : Cond.fieldLink RX1 43 (TX1 1).1 (TX1 1).2.1 (TX1 1).2.2.1 ∈ lw_ok := lw_i1 35 rfl rfl
theorem ff_X1_43 : FFd RX1 43 1 1 := ⟨_, _, _, rfl, by decide, okX1, fl_X1_43⟩
theorem fp_X1_43 : FFp RX1 43 1 1 .int := ⟨_, _, _, tyX1, rfl, by decide, okX1, fl_X1_43, tyX1_ok, nmX1, rfl, by decide +kernel⟩
theorem fl_X1_47 : Cond.fieldLink RX1 47 (TX1 2).1 (TX1 2).2.1 (TX1 2).2.2.1 ∈ lw_ok := lw_i1 38 rfl rfl
theorem fp_X1_47 : FFp RX1 47 1 2 .int := ⟨_, _, _, tyX1, rfl, by decide, okX1, fl_X1_47, tyX1_ok, nmX1, rfl, by decide +kernel⟩
theorem fl_X1_50 : Cond.fieldLink RX1 50 (TX1 3).1 (TX1 3).2.1 (TX1 3).2.2.1 ∈ lw_ok := lw_i1 41 rfl rfl
theorem ff_X1_50 : FFd RX1 50 1 3 := ⟨_, _, _, rfl, by decide, okX1, fl_X1_50⟩
theorem fp_X1_50 : FFp RX1 50 1 3 .int := ⟨_, _, _, tyX1, rfl, by decide, okX1, fl_X1_50, tyX1_ok, nmX1, rfl, by decide +kernel⟩
theorem fl_X1_53 : Cond.fieldLink RX1 53 (TX1 5).1 (TX1 5).2.1 (TX1 5).2.2.1 ∈ lw_ok := lw_i1 47 rfl rfl
theorem ff_X1_53 : FFd RX1 53 1 5 := ⟨_, _, _, rfl, by decide, okX1, fl_X1_53⟩
theorem fp_X1_53 : FFp RX1 53 1 5 .int := ⟨_, _, _, tyX1, rfl, by decide, okX1, fl_X1_53, tyX1_ok, nmX1, rfl, by decide +kernel⟩
theorem fl_X1_56 : Cond.fieldLink RX1 56 (TX1 9).1 (TX1 9).2.1 (TX1 9).2.2.1 ∈ lw_ok := lw_i1 56 rfl rfl
theorem ff_X1_56 : FFd RX1 56 1 9 := ⟨_, _, _, rfl, by decide, okX1, fl_X1_56⟩
theorem fp_X1_56 : FFp RX1 56 1 9 .int := ⟨_, _, _, tyX1, rfl, by decide, okX1, fl_X1_56, tyX1_ok, nmX1, rfl, by decide +kernel⟩
theorem fl_X1_59 : Cond.fieldLink RX1 59 (TX1 13).1 (TX1 13).2.1 (TX1 13).2.2.1 ∈ lw_ok := lw_i1 68 rfl rfl
theorem fp_X1_59 : FFp RX1 59 1 13 .int := ⟨_, _, _, tyX1, rfl, by decide, okX1, fl_X1_59, tyX1_ok, nmX1, rfl, by decide +kernel⟩
theorem fl_X1_62 : Cond.fieldLink RX1 62 (TX1 14).1 (TX1 14).2.1 (TX1 14).2.2.1 ∈ lw_ok := lw_i1 71 rfl rfl
theorem ff_X1_62 : FFd RX1 62 1 14 := ⟨_, _, _, rfl, by decide, okX1, fl_X1_62⟩
theorem fp_X1_62 : FFp RX1 62 1 14 .int := ⟨_, _, _, tyX1, rfl, by decide, okX1, fl_X1_62, tyX1_ok, nmX1, rfl, by decide +kernel⟩
theorem fl_X2_11 : Cond.fieldLink RX2 11 (TX2 0).1 (TX2 0).2.1 (TX2 0).2.2.1 ∈ lw_ok := lw_i1 193 rfl rfl
theorem ff_X2_11 : FFd RX2 11 2 0 := ⟨_, _, _, rfl, by decide, okX2, fl_X2_11⟩
theorem fl_X2_17 : Cond.fieldLink RX2 17 (TX2 1).1 (TX2 1).2.1 (TX2 1).2.2.1 ∈ lw_ok := lw_i1 195 rfl rfl
theorem ff_X2_17 : FFd RX2 17 2 1 := ⟨_, _, _, rfl, by decide, okX2, fl_X2_17⟩
theorem fl_X2_21 : Cond.fieldLink RX2 21 (TX2 2).1 (TX2 2).2.1 (TX2 2).2.2.1 ∈ lw_ok := lw_i1 197 rfl rfl
theorem ff_X2_21 : FFd RX2 21 2 2 := ⟨_, _, _, rfl, by decide, okX2, fl_X2_21⟩
theorem fl_X3_11 : Cond.fieldLink RX3 11 (TX3 0).1 (TX3 0).2.1 (TX3 0).2.2.1 ∈ lw_ok := lw_i1 174 rfl rfl
theorem ff_X3_11 : FFd RX3 11 3 0 := ⟨_, _, _, rfl, by decide, okX3, fl_X3_11⟩
theorem fl_X3_18 : Cond.fieldLink RX3 18 (TX3 1).1 (TX3 1).2.1 (TX3 1).2.2.1 ∈ lw_ok := lw_i1 175 rfl rfl
theorem ff_X3_18 : FFd RX3 18 3 1 := ⟨_, _, _, rfl, by decide, okX3, fl_X3_18⟩
theorem fp_X3_18 : FFp RX3 18 3 1 .int := ⟨_, _, _, tyX3, rfl, by decide, okX3, fl_X3_18, tyX3_ok, nmX3, rfl, by decide +kernel⟩
theorem fl_X3_26 : Cond.fieldLink RX3 26 (TX3 2).1 (TX3 2).2.1 (TX3 2).2.2.1 ∈ lw_ok := lw_i1 176 rfl rfl
theorem ff_X3_26 : FFd RX3 26 3 2 := ⟨_, _, _, rfl, by decide, okX3, fl_X3_26⟩
theorem fp_X3_26 : FFp RX3 26 3 2 .int := ⟨_, _, _, tyX3, rfl, by decide, okX3, fl_X3_26, tyX3_ok, nmX3, rfl, by decide +kernel⟩
theorem fl_X4_9 : Cond.fieldLink RX4 9 (TX4 0).1 (TX4 0).2.1 (TX4 0).2.2.1 ∈ lw_ok := lw_i1 145 rfl rfl
theorem ff_X4_9 : FFd RX4 9 4 0 := ⟨_, _, _, rfl, by decide, okX4, fl_X4_9⟩
theorem fl_X4_21 : Cond.fieldLink RX4 21 (TX1 15).1 (TX1 15).2.1 (TX1 15).2.2.1 ∈ lw_ok := lw_i1 75 rfl rfl
theorem ff_X4_21 : FFd RX4 21 1 15 := ⟨_, _, _, rfl, by decide, okX1, fl_X4_21⟩
theorem fl_X4_22 : Cond.fieldLink RX4 22 (TX1 13).1 (TX1 13).2.1 (TX1 13).2.2.1 ∈ lw_ok := lw_i1 69 rfl rfl
theorem ff_X4_22 : FFd RX4 22 1 13 := ⟨_, _, _, rfl, by decide, okX1, fl_X4_22⟩
theorem fl_X4_26 : Cond.fieldLink RX4 26 (TX4 1).1 (TX4 1).2.1 (TX4 1).2.2.1 ∈ lw_ok := lw_i1 146 rfl rfl
theorem ff_X4_26 : FFd RX4 26 4 1 := ⟨_, _, _, rfl, by decide, okX4, fl_X4_26⟩
theorem fp_X4_26 : FFp RX4 26 4 1 .int := ⟨_, _, _, tyX4, rfl, by decide, okX4, fl_X4_26, tyX4_ok, nmX4, rfl, by decide +kernel⟩
theorem fl_X4_27 : Cond.fieldLink RX4 27 (TX4 2).1 (TX4 2).2.1 (TX4 2).2.2.1 ∈ lw_ok := lw_i1 148 rfl rfl
theorem ff_X4_27 : FFd RX4 27 4 2 := ⟨_, _, _, rfl, by decide, okX4, fl_X4_27⟩
theorem fp_X4_27 : FFp RX4 27 4 2 .int := ⟨_, _, _, tyX4, rfl, by decide, okX4, fl_X4_27, tyX4_ok, nmX4, rfl, by decide +kernel⟩
theorem fl_X4_30 : Cond.fieldLink RX4 30 (TX4 3).1 (TX4 3).2.1 (TX4 3).2.2.1 ∈ lw_ok := lw_i1 150 rfl rfl
theorem ff_X4_30 : FFd RX4 30 4 3 := ⟨_, _, _, rfl, by decide, okX4, fl_X4_30⟩
theorem fp_X4_30 : FFp RX4 30 4 3 .int := ⟨_, _, _, tyX4, rfl, by decide, okX4, fl_X4_30, tyX4_ok, nmX4, rfl, by decide +kernel⟩
theorem fl_X4_33 : Cond.fieldLink RX4 33 (TX4 4).1 (TX4 4).2.1 (TX4 4).2.2.1 ∈ lw_ok := lw_i1 152 rfl rfl
theorem ff_X4_33 : FFd RX4 33 4 4 := ⟨_, _, _, rfl, by decide, okX4, fl_X4_33⟩
theorem fp_X4_33 : FFp RX4 33 4 4 .int := ⟨_, _, _, tyX4, rfl, by decide, okX4, fl_X4_33, tyX4_ok, nmX4, rfl, by decide +kernel⟩
theorem fl_X5_9 : Cond.fieldLink RX5 9 (TX5 0).1 (TX5 0).2.1 (TX5 0).2.2.1 ∈ lw_ok := lw_i1 213 rfl rfl
theorem ff_X5_9 : FFd RX5 9 5 0 := ⟨_, _, _, rfl, by decide, okX5, fl_X5_9⟩
theorem fl_X5_15 : Cond.fieldLink RX5 15 (TX5 1).1 (TX5 1).2.1 (TX5 1).2.2.1 ∈ lw_ok := lw_i1 214 rfl rfl
theorem ff_X5_15 : FFd RX5 15 5 1 := ⟨_, _, _, rfl, by decide, okX5, fl_X5_15⟩
theorem fl_X5_18 : Cond.fieldLink RX5 18 (TX5 2).1 (TX5 2).2.1 (TX5 2).2.2.1 ∈ lw_ok := lw_i1 215 rfl rfl
theorem ff_X5_18 : FFd RX5 18 5 2 := ⟨_, _, _, rfl, by decide, okX5, fl_X5_18⟩
theorem fl_X5_22 : Cond.fieldLink RX5 22 (TX5 3).1 (TX5 3).2.1 (TX5 3).2.2.1 ∈ lw_ok := lw_i1 216 rfl rfl
theorem ff_X5_22 : FFd RX5 22 5 3 := ⟨_, _, _, rfl, by decide, okX5, fl_X5_22⟩
theorem fl_X5_25 : Cond.fieldLink RX5 25 (TX5 4).1 (TX5 4).2.1 (TX5 4).2.2.1 ∈ lw_ok := lw_i1 217 rfl rfl
theorem ff_X5_25 : FFd RX5 25 5 4 := ⟨_, _, _, rfl, by decide, okX5, fl_X5_25⟩
theorem fp_X5_25 : FFp RX5 25 5 4 .int := ⟨_, _, _, tyX5, rfl, by decide, okX5, fl_X5_25, tyX5_ok, nmX5, rfl, by decide +kernel⟩
theorem fl_X5_29 : Cond.fieldLink RX5 29 (TX5 5).1 (TX5 5).2.1 (TX5 5).2.2.1 ∈ lw_ok := lw_i1 219 rfl rfl
theorem ff_X5_29 : FFd RX5 29 5 5 := ⟨_, _, _, rfl, by decide, okX5, fl_X5_29⟩
theorem fp_X5_29 : FFp RX5 29 5 5 .int := ⟨_, _, _, tyX5, rfl, by decide, okX5, fl_X5_29, tyX5_ok, nmX5, rfl, by decide +kernel⟩
theorem fl_X5_32 : Cond.fieldLink RX5 32 (TX5 6).1 (TX5 6).2.1 (TX5 6).2.2.1 ∈ lw_ok := lw_i1 221 rfl rfl
theorem ff_X5_32 : FFd RX5 32 5 6 := ⟨_, _, _, rfl, by decide, okX5, fl_X5_32⟩
theorem fp_X5_32 : FFp RX5 32 5 6 .int := ⟨_, _, _, tyX5, rfl, by decide, okX5, fl_X5_32, tyX5_ok, nmX5, rfl, by decide +kernel⟩
theorem fl_X5_35 : Cond.fieldLink RX5 35 (TX5 7).1 (TX5 7).2.1 (TX5 7).2.2.1 ∈ lw_ok := lw_i1 223 rfl rfl
theorem ff_X5_35 : FFd RX5 35 5 7 := ⟨_, _, _, rfl, by decide, okX5, fl_X5_35⟩
theorem fp_X5_35 : FFp RX5 35 5 7 .int := ⟨_, _, _, tyX5, rfl, by decide, okX5, fl_X5_35, tyX5_ok, nmX5, rfl, by decide +kernel⟩
theorem fl_X6_9 : Cond.fieldLink RX6 9 (TX6 0).1 (TX6 0).2.1 (TX6 0).2.2.1 ∈ lw_ok := lw_i1 114 rfl rfl
theorem ff_X6_9 : FFd RX6 9 6 0 := ⟨_, _, _, rfl, by decide, okX6, fl_X6_9⟩
theorem fl_X6_15 : Cond.fieldLink RX6 15 (TX6 2).1 (TX6 2).2.1 (TX6 2).2.2.1 ∈ lw_ok := lw_i1 117 rfl rfl
theorem fp_X6_15 : FFp RX6 15 6 2 .int := ⟨_, _, _, tyX6, rfl, by decide, okX6, fl_X6_15, tyX6_ok, nmX6, rfl, by decide +kernel⟩
theorem fl_X6_22 : Cond.fieldLink RX6 22 (TX6 6).1 (TX6 6).2.1 (TX6 6).2.2.1 ∈ lw_ok := lw_i1 123 rfl rfl
theorem ff_X6_22 : FFd RX6 22 6 6 := ⟨_, _, _, rfl, by decide, okX6, fl_X6_22⟩
theorem fp_X6_22 : FFp RX6 22 6 6 (.object "MindDuty$Country") := ⟨_, _, _, tyX6, rfl, by decide, okX6, fl_X6_22, tyX6_ok, nmX6, rfl, by decide +kernel⟩
theorem fl_X6_26 : Cond.fieldLink RX6 26 (TX6 1).1 (TX6 1).2.1 (TX6 1).2.2.1 ∈ lw_ok := lw_i1 115 rfl rfl
theorem ff_X6_26 : FFd RX6 26 6 1 := ⟨_, _, _, rfl, by decide, okX6, fl_X6_26⟩
theorem fp_X6_26 : FFp RX6 26 6 1 .int := ⟨_, _, _, tyX6, rfl, by decide, okX6, fl_X6_26, tyX6_ok, nmX6, rfl, by decide +kernel⟩
theorem fl_X6_32 : Cond.fieldLink RX6 32 (TX6 4).1 (TX6 4).2.1 (TX6 4).2.2.1 ∈ lw_ok := lw_i1 121 rfl rfl
theorem ff_X6_32 : FFd RX6 32 6 4 := ⟨_, _, _, rfl, by decide, okX6, fl_X6_32⟩
theorem fp_X6_32 : FFp RX6 32 6 4 .int := ⟨_, _, _, tyX6, rfl, by decide, okX6, fl_X6_32, tyX6_ok, nmX6, rfl, by decide +kernel⟩
theorem fl_X6_35 : Cond.fieldLink RX6 35 (TX6 3).1 (TX6 3).2.1 (TX6 3).2.2.1 ∈ lw_ok := lw_i1 120 rfl rfl
theorem ff_X6_35 : FFd RX6 35 6 3 := ⟨_, _, _, rfl, by decide, okX6, fl_X6_35⟩
theorem fp_X6_35 : FFp RX6 35 6 3 .int := ⟨_, _, _, tyX6, rfl, by decide, okX6, fl_X6_35, tyX6_ok, nmX6, rfl, by decide +kernel⟩
theorem fl_X6_73 : Cond.fieldLink RX6 73 (TX1 0).1 (TX1 0).2.1 (TX1 0).2.2.1 ∈ lw_ok := lw_i1 33 rfl rfl
theorem ff_X6_73 : FFd RX6 73 1 0 := ⟨_, _, _, rfl, by decide, okX1, fl_X6_73⟩
theorem fp_X6_73 : FFp RX6 73 1 0 .boolean := ⟨_, _, _, tyX1, rfl, by decide, okX1, fl_X6_73, tyX1_ok, nmX1, rfl, by decide +kernel⟩
theorem fl_X6_81 : Cond.fieldLink RX6 81 (TX1 3).1 (TX1 3).2.1 (TX1 3).2.2.1 ∈ lw_ok := lw_i1 43 rfl rfl
theorem ff_X6_81 : FFd RX6 81 1 3 := ⟨_, _, _, rfl, by decide, okX1, fl_X6_81⟩
theorem fp_X6_81 : FFp RX6 81 1 3 .int := ⟨_, _, _, tyX1, rfl, by decide, okX1, fl_X6_81, tyX1_ok, nmX1, rfl, by decide +kernel⟩
theorem fl_X6_84 : Cond.fieldLink RX6 84 (TX1 5).1 (TX1 5).2.1 (TX1 5).2.2.1 ∈ lw_ok := lw_i1 49 rfl rfl
theorem ff_X6_84 : FFd RX6 84 1 5 := ⟨_, _, _, rfl, by decide, okX1, fl_X6_84⟩
theorem fp_X6_84 : FFp RX6 84 1 5 .int := ⟨_, _, _, tyX1, rfl, by decide, okX1, fl_X6_84, tyX1_ok, nmX1, rfl, by decide +kernel⟩
theorem fl_X6_87 : Cond.fieldLink RX6 87 (TX1 9).1 (TX1 9).2.1 (TX1 9).2.2.1 ∈ lw_ok := lw_i1 58 rfl rfl
theorem ff_X6_87 : FFd RX6 87 1 9 := ⟨_, _, _, rfl, by decide, okX1, fl_X6_87⟩
theorem fp_X6_87 : FFp RX6 87 1 9 .int := ⟨_, _, _, tyX1, rfl, by decide, okX1, fl_X6_87, tyX1_ok, nmX1, rfl, by decide +kernel⟩
theorem fl_X6_90 : Cond.fieldLink RX6 90 (TX1 14).1 (TX1 14).2.1 (TX1 14).2.2.1 ∈ lw_ok := lw_i1 73 rfl rfl
theorem ff_X6_90 : FFd RX6 90 1 14 := ⟨_, _, _, rfl, by decide, okX1, fl_X6_90⟩
theorem fp_X6_90 : FFp RX6 90 1 14 .int := ⟨_, _, _, tyX1, rfl, by decide, okX1, fl_X6_90, tyX1_ok, nmX1, rfl, by decide +kernel⟩
theorem fl_X6_97 : Cond.fieldLink RX6 97 (TX1 1).1 (TX1 1).2.1 (TX1 1).2.2.1 ∈ lw_ok := lw_i1 37 rfl rfl
theorem fp_X6_97 : FFp RX6 97 1 1 .int := ⟨_, _, _, tyX1, rfl, by decide, okX1, fl_X6_97, tyX1_ok, nmX1, rfl, by decide +kernel⟩
theorem fl_X6_100 : Cond.fieldLink RX6 100 (TX1 2).1 (TX1 2).2.1 (TX1 2).2.2.1 ∈ lw_ok := lw_i1 40 rfl rfl
theorem fp_X6_100 : FFp RX6 100 1 2 .int := ⟨_, _, _, tyX1, rfl, by decide, okX1, fl_X6_100, tyX1_ok, nmX1, rfl, by decide +kernel⟩
theorem fl_X6_103 : Cond.fieldLink RX6 103 (TX1 4).1 (TX1 4).2.1 (TX1 4).2.2.1 ∈ lw_ok := lw_i1 46 rfl rfl
theorem ff_X6_103 : FFd RX6 103 1 4 := ⟨_, _, _, rfl, by decide, okX1, fl_X6_103⟩
theorem fl_X6_109 : Cond.fieldLink RX6 109 (TX6 5).1 (TX6 5).2.1 (TX6 5).2.2.1 ∈ lw_ok := lw_i1 122 rfl rfl
theorem ff_X6_109 : FFd RX6 109 6 5 := ⟨_, _, _, rfl, by decide, okX6, fl_X6_109⟩
theorem fp_X6_109 : FFp RX6 109 6 5 .int := ⟨_, _, _, tyX6, rfl, by decide, okX6, fl_X6_109, tyX6_ok, nmX6, rfl, by decide +kernel⟩
theorem fl_X6_112 : Cond.fieldLink RX6 112 (TX1 6).1 (TX1 6).2.1 (TX1 6).2.2.1 ∈ lw_ok := lw_i1 51 rfl rfl
theorem ff_X6_112 : FFd RX6 112 1 6 := ⟨_, _, _, rfl, by decide, okX1, fl_X6_112⟩
theorem fl_X6_115 : Cond.fieldLink RX6 115 (TX1 7).1 (TX1 7).2.1 (TX1 7).2.2.1 ∈ lw_ok := lw_i1 53 rfl rfl
theorem ff_X6_115 : FFd RX6 115 1 7 := ⟨_, _, _, rfl, by decide, okX1, fl_X6_115⟩
theorem fl_X6_118 : Cond.fieldLink RX6 118 (TX1 8).1 (TX1 8).2.1 (TX1 8).2.2.1 ∈ lw_ok := lw_i1 55 rfl rfl
theorem ff_X6_118 : FFd RX6 118 1 8 := ⟨_, _, _, rfl, by decide, okX1, fl_X6_118⟩
theorem fl_X6_121 : Cond.fieldLink RX6 121 (TX1 10).1 (TX1 10).2.1 (TX1 10).2.2.1 ∈ lw_ok := lw_i1 60 rfl rfl
theorem ff_X6_121 : FFd RX6 121 1 10 := ⟨_, _, _, rfl, by decide, okX1, fl_X6_121⟩
theorem fl_X6_124 : Cond.fieldLink RX6 124 (TX1 11).1 (TX1 11).2.1 (TX1 11).2.2.1 ∈ lw_ok := lw_i1 63 rfl rfl
theorem ff_X6_124 : FFd RX6 124 1 11 := ⟨_, _, _, rfl, by decide, okX1, fl_X6_124⟩
theorem fl_X6_127 : Cond.fieldLink RX6 127 (TX1 12).1 (TX1 12).2.1 (TX1 12).2.2.1 ∈ lw_ok := lw_i1 66 rfl rfl
theorem ff_X6_127 : FFd RX6 127 1 12 := ⟨_, _, _, rfl, by decide, okX1, fl_X6_127⟩
theorem fl_X6_130 : Cond.fieldLink RX6 130 (TX1 13).1 (TX1 13).2.1 (TX1 13).2.2.1 ∈ lw_ok := lw_i1 70 rfl rfl
theorem ff_X6_130 : FFd RX6 130 1 13 := ⟨_, _, _, rfl, by decide, okX1, fl_X6_130⟩
theorem fp_X6_130 : FFp RX6 130 1 13 .int := ⟨_, _, _, tyX1, rfl, by decide, okX1, fl_X6_130, tyX1_ok, nmX1, rfl, by decide +kernel⟩
theorem fl_X6_133 : Cond.fieldLink RX6 133 (TX1 15).1 (TX1 15).2.1 (TX1 15).2.2.1 ∈ lw_ok := lw_i1 76 rfl rfl
theorem ff_X6_133 : FFd RX6 133 1 15 := ⟨_, _, _, rfl, by decide, okX1, fl_X6_133⟩
theorem fl_X7_10 : Cond.fieldLink RX7 10 (TX7 0).1 (TX7 0).2.1 (TX7 0).2.2.1 ∈ lw_ok := lw_i2 21 rfl rfl
theorem ff_X7_10 : FFd RX7 10 7 0 := ⟨_, _, _, rfl, by decide, okX7, fl_X7_10⟩
theorem fl_X7_19 : Cond.fieldLink RX7 19 (TX7 1).1 (TX7 1).2.1 (TX7 1).2.2.1 ∈ lw_ok := lw_i2 22 rfl rfl
theorem ff_X7_19 : FFd RX7 19 7 1 := ⟨_, _, _, rfl, by decide, okX7, fl_X7_19⟩
theorem fl_X7_26 : Cond.fieldLink RX7 26 (TX7 2).1 (TX7 2).2.1 (TX7 2).2.2.1 ∈ lw_ok := lw_i2 23 rfl rfl
theorem ff_X7_26 : FFd RX7 26 7 2 := ⟨_, _, _, rfl, by decide, okX7, fl_X7_26⟩
theorem fl_X7_33 : Cond.fieldLink RX7 33 (TX7 3).1 (TX7 3).2.1 (TX7 3).2.2.1 ∈ lw_ok := lw_i2 24 rfl rfl
theorem ff_X7_33 : FFd RX7 33 7 3 := ⟨_, _, _, rfl, by decide, okX7, fl_X7_33⟩
theorem fl_X7_40 : Cond.fieldLink RX7 40 (TX7 4).1 (TX7 4).2.1 (TX7 4).2.2.1 ∈ lw_ok := lw_i2 25 rfl rfl
theorem ff_X7_40 : FFd RX7 40 7 4 := ⟨_, _, _, rfl, by decide, okX7, fl_X7_40⟩
theorem fl_X7_47 : Cond.fieldLink RX7 47 (TX7 5).1 (TX7 5).2.1 (TX7 5).2.2.1 ∈ lw_ok := lw_i2 26 rfl rfl
theorem ff_X7_47 : FFd RX7 47 7 5 := ⟨_, _, _, rfl, by decide, okX7, fl_X7_47⟩
theorem fl_X7_51 : Cond.fieldLink RX7 51 (TX7 6).1 (TX7 6).2.1 (TX7 6).2.2.1 ∈ lw_ok := lw_i2 27 rfl rfl
theorem ff_X7_51 : FFd RX7 51 7 6 := ⟨_, _, _, rfl, by decide, okX7, fl_X7_51⟩
theorem fl_X7_58 : Cond.fieldLink RX7 58 (TX7 7).1 (TX7 7).2.1 (TX7 7).2.2.1 ∈ lw_ok := lw_i2 28 rfl rfl
theorem ff_X7_58 : FFd RX7 58 7 7 := ⟨_, _, _, rfl, by decide, okX7, fl_X7_58⟩
theorem fp_X7_58 : FFp RX7 58 7 7 (.object "MindDuty$Country") := ⟨_, _, _, tyX7, rfl, by decide, okX7, fl_X7_58, tyX7_ok, nmX7, rfl, by decide +kernel⟩
theorem fl_X7_67 : Cond.fieldLink RX7 67 (TX6 1).1 (TX6 1).2.1 (TX6 1).2.2.1 ∈ lw_ok := lw_i1 116 rfl rfl
theorem ff_X7_67 : FFd RX7 67 6 1 := ⟨_, _, _, rfl, by decide, okX6, fl_X7_67⟩
theorem fp_X7_67 : FFp RX7 67 6 1 .int := ⟨_, _, _, tyX6, rfl, by decide, okX6, fl_X7_67, tyX6_ok, nmX6, rfl, by decide +kernel⟩
theorem fl_X7_76 : Cond.fieldLink RX7 76 (TX6 3).1 (TX6 3).2.1 (TX6 3).2.2.1 ∈ lw_ok := lw_i1 119 rfl rfl
theorem ff_X7_76 : FFd RX7 76 6 3 := ⟨_, _, _, rfl, by decide, okX6, fl_X7_76⟩
theorem fl_X7_90 : Cond.fieldLink RX7 90 (TX3 2).1 (TX3 2).2.1 (TX3 2).2.2.1 ∈ lw_ok := lw_i1 177 rfl rfl
theorem ff_X7_90 : FFd RX7 90 3 2 := ⟨_, _, _, rfl, by decide, okX3, fl_X7_90⟩
theorem fp_X7_90 : FFp RX7 90 3 2 .int := ⟨_, _, _, tyX3, rfl, by decide, okX3, fl_X7_90, tyX3_ok, nmX3, rfl, by decide +kernel⟩
theorem fl_X7_96 : Cond.fieldLink RX7 96 (TX5 4).1 (TX5 4).2.1 (TX5 4).2.2.1 ∈ lw_ok := lw_i1 218 rfl rfl
theorem ff_X7_96 : FFd RX7 96 5 4 := ⟨_, _, _, rfl, by decide, okX5, fl_X7_96⟩
theorem fp_X7_96 : FFp RX7 96 5 4 .int := ⟨_, _, _, tyX5, rfl, by decide, okX5, fl_X7_96, tyX5_ok, nmX5, rfl, by decide +kernel⟩
theorem fl_X7_97 : Cond.fieldLink RX7 97 (TX0 2).1 (TX0 2).2.1 (TX0 2).2.2.1 ∈ lw_ok := lw_i2 11 rfl rfl
theorem ff_X7_97 : FFd RX7 97 0 2 := ⟨_, _, _, rfl, by decide, okX0, fl_X7_97⟩
theorem fp_X7_97 : FFp RX7 97 0 2 .int := ⟨_, _, _, tyX0, rfl, by decide, okX0, fl_X7_97, tyX0_ok, nmX0, rfl, by decide +kernel⟩
theorem fl_X7_98 : Cond.fieldLink RX7 98 (TX1 3).1 (TX1 3).2.1 (TX1 3).2.2.1 ∈ lw_ok := lw_i1 42 rfl rfl
theorem ff_X7_98 : FFd RX7 98 1 3 := ⟨_, _, _, rfl, by decide, okX1, fl_X7_98⟩
theorem fl_X7_101 : Cond.fieldLink RX7 101 (TX6 2).1 (TX6 2).2.1 (TX6 2).2.2.1 ∈ lw_ok := lw_i1 118 rfl rfl
theorem ff_X7_101 : FFd RX7 101 6 2 := ⟨_, _, _, rfl, by decide, okX6, fl_X7_101⟩
theorem fl_X7_104 : Cond.fieldLink RX7 104 (TX1 1).1 (TX1 1).2.1 (TX1 1).2.2.1 ∈ lw_ok := lw_i1 36 rfl rfl
theorem ff_X7_104 : FFd RX7 104 1 1 := ⟨_, _, _, rfl, by decide, okX1, fl_X7_104⟩
theorem fl_X7_107 : Cond.fieldLink RX7 107 (TX1 2).1 (TX1 2).2.1 (TX1 2).2.2.1 ∈ lw_ok := lw_i1 39 rfl rfl
theorem ff_X7_107 : FFd RX7 107 1 2 := ⟨_, _, _, rfl, by decide, okX1, fl_X7_107⟩
theorem fl_X7_110 : Cond.fieldLink RX7 110 (TX1 5).1 (TX1 5).2.1 (TX1 5).2.2.1 ∈ lw_ok := lw_i1 48 rfl rfl
theorem ff_X7_110 : FFd RX7 110 1 5 := ⟨_, _, _, rfl, by decide, okX1, fl_X7_110⟩
theorem fl_X7_113 : Cond.fieldLink RX7 113 (TX1 9).1 (TX1 9).2.1 (TX1 9).2.2.1 ∈ lw_ok := lw_i1 57 rfl rfl
theorem ff_X7_113 : FFd RX7 113 1 9 := ⟨_, _, _, rfl, by decide, okX1, fl_X7_113⟩
theorem fl_X7_116 : Cond.fieldLink RX7 116 (TX1 14).1 (TX1 14).2.1 (TX1 14).2.2.1 ∈ lw_ok := lw_i1 72 rfl rfl
theorem ff_X7_116 : FFd RX7 116 1 14 := ⟨_, _, _, rfl, by decide, okX1, fl_X7_116⟩
theorem fl_X7_119 : Cond.fieldLink RX7 119 (TX4 1).1 (TX4 1).2.1 (TX4 1).2.2.1 ∈ lw_ok := lw_i1 147 rfl rfl
theorem ff_X7_119 : FFd RX7 119 4 1 := ⟨_, _, _, rfl, by decide, okX4, fl_X7_119⟩
theorem fp_X7_119 : FFp RX7 119 4 1 .int := ⟨_, _, _, tyX4, rfl, by decide, okX4, fl_X7_119, tyX4_ok, nmX4, rfl, by decide +kernel⟩
theorem fl_X7_126 : Cond.fieldLink RX7 126 (TX4 2).1 (TX4 2).2.1 (TX4 2).2.2.1 ∈ lw_ok := lw_i1 149 rfl rfl
theorem ff_X7_126 : FFd RX7 126 4 2 := ⟨_, _, _, rfl, by decide, okX4, fl_X7_126⟩
theorem fl_X7_132 : Cond.fieldLink RX7 132 (TX4 3).1 (TX4 3).2.1 (TX4 3).2.2.1 ∈ lw_ok := lw_i1 151 rfl rfl
theorem ff_X7_132 : FFd RX7 132 4 3 := ⟨_, _, _, rfl, by decide, okX4, fl_X7_132⟩
theorem fp_X7_132 : FFp RX7 132 4 3 .int := ⟨_, _, _, tyX4, rfl, by decide, okX4, fl_X7_132, tyX4_ok, nmX4, rfl, by decide +kernel⟩
theorem fl_X7_135 : Cond.fieldLink RX7 135 (TX4 4).1 (TX4 4).2.1 (TX4 4).2.2.1 ∈ lw_ok := lw_i1 153 rfl rfl
theorem ff_X7_135 : FFd RX7 135 4 4 := ⟨_, _, _, rfl, by decide, okX4, fl_X7_135⟩
theorem fp_X7_135 : FFp RX7 135 4 4 .int := ⟨_, _, _, tyX4, rfl, by decide, okX4, fl_X7_135, tyX4_ok, nmX4, rfl, by decide +kernel⟩
theorem fl_X7_141 : Cond.fieldLink RX7 141 (TX1 4).1 (TX1 4).2.1 (TX1 4).2.2.1 ∈ lw_ok := lw_i1 45 rfl rfl
theorem ff_X7_141 : FFd RX7 141 1 4 := ⟨_, _, _, rfl, by decide, okX1, fl_X7_141⟩
theorem fl_X7_200 : Cond.fieldLink RX7 200 (TX1 0).1 (TX1 0).2.1 (TX1 0).2.2.1 ∈ lw_ok := lw_i1 34 rfl rfl
theorem ff_X7_200 : FFd RX7 200 1 0 := ⟨_, _, _, rfl, by decide, okX1, fl_X7_200⟩
theorem fl_X7_247 : Cond.fieldLink RX7 247 (TX5 5).1 (TX5 5).2.1 (TX5 5).2.2.1 ∈ lw_ok := lw_i1 220 rfl rfl
theorem ff_X7_247 : FFd RX7 247 5 5 := ⟨_, _, _, rfl, by decide, okX5, fl_X7_247⟩
theorem fl_X7_250 : Cond.fieldLink RX7 250 (TX5 6).1 (TX5 6).2.1 (TX5 6).2.2.1 ∈ lw_ok := lw_i1 222 rfl rfl
theorem ff_X7_250 : FFd RX7 250 5 6 := ⟨_, _, _, rfl, by decide, okX5, fl_X7_250⟩
theorem fl_X7_253 : Cond.fieldLink RX7 253 (TX5 7).1 (TX5 7).2.1 (TX5 7).2.2.1 ∈ lw_ok := lw_i1 224 rfl rfl
theorem ff_X7_253 : FFd RX7 253 5 7 := ⟨_, _, _, rfl, by decide, okX5, fl_X7_253⟩
theorem fl_X7_265 : Cond.fieldLink RX7 265 (TX7 8).1 (TX7 8).2.1 (TX7 8).2.2.1 ∈ lw_ok := lw_i2 29 rfl rfl
theorem ff_X7_265 : FFd RX7 265 7 8 := ⟨_, _, _, rfl, by decide, okX7, fl_X7_265⟩
theorem fp_X7_265 : FFp RX7 265 7 8 .int := ⟨_, _, _, tyX7, rfl, by decide, okX7, fl_X7_265, tyX7_ok, nmX7, rfl, by decide +kernel⟩
theorem fl_X7_272 : Cond.fieldLink RX7 272 (TX2 2).1 (TX2 2).2.1 (TX2 2).2.2.1 ∈ lw_ok := lw_i1 198 rfl rfl
theorem ff_X7_272 : FFd RX7 272 2 2 := ⟨_, _, _, rfl, by decide, okX2, fl_X7_272⟩
theorem fl_X7_276 : Cond.fieldLink RX7 276 (TX2 0).1 (TX2 0).2.1 (TX2 0).2.2.1 ∈ lw_ok := lw_i1 194 rfl rfl
theorem ff_X7_276 : FFd RX7 276 2 0 := ⟨_, _, _, rfl, by decide, okX2, fl_X7_276⟩
theorem fl_X7_283 : Cond.fieldLink RX7 283 (TX2 1).1 (TX2 1).2.1 (TX2 1).2.2.1 ∈ lw_ok := lw_i1 196 rfl rfl
theorem ff_X7_283 : FFd RX7 283 2 1 := ⟨_, _, _, rfl, by decide, okX2, fl_X7_283⟩
theorem fl_X7_296 : Cond.fieldLink RX7 296 (TX1 11).1 (TX1 11).2.1 (TX1 11).2.2.1 ∈ lw_ok := lw_i1 64 rfl rfl
theorem ff_X7_296 : FFd RX7 296 1 11 := ⟨_, _, _, rfl, by decide, okX1, fl_X7_296⟩
theorem fl_X7_299 : Cond.fieldLink RX7 299 (TX1 10).1 (TX1 10).2.1 (TX1 10).2.2.1 ∈ lw_ok := lw_i1 61 rfl rfl
theorem ff_X7_299 : FFd RX7 299 1 10 := ⟨_, _, _, rfl, by decide, okX1, fl_X7_299⟩
theorem fl_X7_302 : Cond.fieldLink RX7 302 (TX1 12).1 (TX1 12).2.1 (TX1 12).2.2.1 ∈ lw_ok := lw_i1 67 rfl rfl
theorem ff_X7_302 : FFd RX7 302 1 12 := ⟨_, _, _, rfl, by decide, okX1, fl_X7_302⟩
theorem fl_X8_7 : Cond.fieldLink RX8 7 (TX8 3).1 (TX8 3).2.1 (TX8 3).2.2.1 ∈ lw_ok := lw_i3 224 rfl rfl
theorem ff_X8_7 : FFd RX8 7 8 3 := ⟨_, _, _, rfl, by decide, okX8, fl_X8_7⟩
theorem fl_X8_13 : Cond.fieldLink RX8 13 (TX8 5).1 (TX8 5).2.1 (TX8 5).2.2.1 ∈ lw_ok := lw_i3 226 rfl rfl
theorem ff_X8_13 : FFd RX8 13 8 5 := ⟨_, _, _, rfl, by decide, okX8, fl_X8_13⟩
theorem fl_X8_16 : Cond.fieldLink RX8 16 (TX8 6).1 (TX8 6).2.1 (TX8 6).2.2.1 ∈ lw_ok := lw_i3 227 rfl rfl
theorem ff_X8_16 : FFd RX8 16 8 6 := ⟨_, _, _, rfl, by decide, okX8, fl_X8_16⟩
theorem fl_X8_19 : Cond.fieldLink RX8 19 (TX8 7).1 (TX8 7).2.1 (TX8 7).2.2.1 ∈ lw_ok := lw_i3 228 rfl rfl
theorem ff_X8_19 : FFd RX8 19 8 7 := ⟨_, _, _, rfl, by decide, okX8, fl_X8_19⟩
theorem fl_X8_22 : Cond.fieldLink RX8 22 (TX8 9).1 (TX8 9).2.1 (TX8 9).2.2.1 ∈ lw_ok := lw_i3 230 rfl rfl
theorem ff_X8_22 : FFd RX8 22 8 9 := ⟨_, _, _, rfl, by decide, okX8, fl_X8_22⟩
theorem fl_X8_25 : Cond.fieldLink RX8 25 (TX8 10).1 (TX8 10).2.1 (TX8 10).2.2.1 ∈ lw_ok := lw_i3 231 rfl rfl
theorem ff_X8_25 : FFd RX8 25 8 10 := ⟨_, _, _, rfl, by decide, okX8, fl_X8_25⟩
theorem fl_X8_28 : Cond.fieldLink RX8 28 (TX8 11).1 (TX8 11).2.1 (TX8 11).2.2.1 ∈ lw_ok := lw_i3 232 rfl rfl
theorem ff_X8_28 : FFd RX8 28 8 11 := ⟨_, _, _, rfl, by decide, okX8, fl_X8_28⟩
theorem fl_X8_31 : Cond.fieldLink RX8 31 (TX8 13).1 (TX8 13).2.1 (TX8 13).2.2.1 ∈ lw_ok := lw_i3 234 rfl rfl
theorem ff_X8_31 : FFd RX8 31 8 13 := ⟨_, _, _, rfl, by decide, okX8, fl_X8_31⟩
theorem fl_X8_34 : Cond.fieldLink RX8 34 (TX8 15).1 (TX8 15).2.1 (TX8 15).2.2.1 ∈ lw_ok := lw_i3 236 rfl rfl
theorem ff_X8_34 : FFd RX8 34 8 15 := ⟨_, _, _, rfl, by decide, okX8, fl_X8_34⟩
theorem fl_X8_37 : Cond.fieldLink RX8 37 (TX8 17).1 (TX8 17).2.1 (TX8 17).2.2.1 ∈ lw_ok := lw_i3 238 rfl rfl
theorem ff_X8_37 : FFd RX8 37 8 17 := ⟨_, _, _, rfl, by decide, okX8, fl_X8_37⟩
theorem fp_X8_37 : FFp RX8 37 8 17 .int := ⟨_, _, _, tyX8, rfl, by decide, okX8, fl_X8_37, tyX8_ok, nmX8, rfl, by decide +kernel⟩
theorem fl_X8_41 : Cond.fieldLink RX8 41 (TX8 21).1 (TX8 21).2.1 (TX8 21).2.2.1 ∈ lw_ok := lw_i4 2 rfl rfl
theorem ff_X8_41 : FFd RX8 41 8 21 := ⟨_, _, _, rfl, by decide, okX8, fl_X8_41⟩
theorem fl_X8_44 : Cond.fieldLink RX8 44 (TX8 23).1 (TX8 23).2.1 (TX8 23).2.2.1 ∈ lw_ok := lw_i4 4 rfl rfl
theorem ff_X8_44 : FFd RX8 44 8 23 := ⟨_, _, _, rfl, by decide, okX8, fl_X8_44⟩
theorem fl_X8_47 : Cond.fieldLink RX8 47 (TX8 25).1 (TX8 25).2.1 (TX8 25).2.2.1 ∈ lw_ok := lw_i4 6 rfl rfl
theorem ff_X8_47 : FFd RX8 47 8 25 := ⟨_, _, _, rfl, by decide, okX8, fl_X8_47⟩
theorem fl_X8_50 : Cond.fieldLink RX8 50 (TX8 26).1 (TX8 26).2.1 (TX8 26).2.2.1 ∈ lw_ok := lw_i4 7 rfl rfl
theorem ff_X8_50 : FFd RX8 50 8 26 := ⟨_, _, _, rfl, by decide, okX8, fl_X8_50⟩
theorem fl_X8_53 : Cond.fieldLink RX8 53 (TX8 27).1 (TX8 27).2.1 (TX8 27).2.2.1 ∈ lw_ok := lw_i4 8 rfl rfl
theorem ff_X8_53 : FFd RX8 53 8 27 := ⟨_, _, _, rfl, by decide, okX8, fl_X8_53⟩
theorem fl_X8_56 : Cond.fieldLink RX8 56 (TX8 29).1 (TX8 29).2.1 (TX8 29).2.2.1 ∈ lw_ok := lw_i4 10 rfl rfl
theorem ff_X8_56 : FFd RX8 56 8 29 := ⟨_, _, _, rfl, by decide, okX8, fl_X8_56⟩
theorem fl_X8_59 : Cond.fieldLink RX8 59 (TX8 30).1 (TX8 30).2.1 (TX8 30).2.2.1 ∈ lw_ok := lw_i4 11 rfl rfl
theorem ff_X8_59 : FFd RX8 59 8 30 := ⟨_, _, _, rfl, by decide, okX8, fl_X8_59⟩
theorem fl_X8_62 : Cond.fieldLink RX8 62 (TX8 31).1 (TX8 31).2.1 (TX8 31).2.2.1 ∈ lw_ok := lw_i4 12 rfl rfl
theorem ff_X8_62 : FFd RX8 62 8 31 := ⟨_, _, _, rfl, by decide, okX8, fl_X8_62⟩
theorem fl_X8_65 : Cond.fieldLink RX8 65 (TX8 34).1 (TX8 34).2.1 (TX8 34).2.2.1 ∈ lw_ok := lw_i4 15 rfl rfl
theorem ff_X8_65 : FFd RX8 65 8 34 := ⟨_, _, _, rfl, by decide, okX8, fl_X8_65⟩
theorem fl_X8_68 : Cond.fieldLink RX8 68 (TX8 36).1 (TX8 36).2.1 (TX8 36).2.2.1 ∈ lw_ok := lw_i4 17 rfl rfl
theorem ff_X8_68 : FFd RX8 68 8 36 := ⟨_, _, _, rfl, by decide, okX8, fl_X8_68⟩
theorem fl_X8_71 : Cond.fieldLink RX8 71 (TX8 37).1 (TX8 37).2.1 (TX8 37).2.2.1 ∈ lw_ok := lw_i4 18 rfl rfl
theorem ff_X8_71 : FFd RX8 71 8 37 := ⟨_, _, _, rfl, by decide, okX8, fl_X8_71⟩
theorem fl_X8_74 : Cond.fieldLink RX8 74 (TX8 39).1 (TX8 39).2.1 (TX8 39).2.2.1 ∈ lw_ok := lw_i4 20 rfl rfl
theorem ff_X8_74 : FFd RX8 74 8 39 := ⟨_, _, _, rfl, by decide, okX8, fl_X8_74⟩
theorem fl_X8_77 : Cond.fieldLink RX8 77 (TX8 40).1 (TX8 40).2.1 (TX8 40).2.2.1 ∈ lw_ok := lw_i4 21 rfl rfl
theorem ff_X8_77 : FFd RX8 77 8 40 := ⟨_, _, _, rfl, by decide, okX8, fl_X8_77⟩
theorem fl_X8_80 : Cond.fieldLink RX8 80 (TX8 41).1 (TX8 41).2.1 (TX8 41).2.2.1 ∈ lw_ok := lw_i4 22 rfl rfl
theorem ff_X8_80 : FFd RX8 80 8 41 := ⟨_, _, _, rfl, by decide, okX8, fl_X8_80⟩
theorem fl_X8_84 : Cond.fieldLink RX8 84 (TX8 42).1 (TX8 42).2.1 (TX8 42).2.2.1 ∈ lw_ok := lw_i4 23 rfl rfl
theorem ff_X8_84 : FFd RX8 84 8 42 := ⟨_, _, _, rfl, by decide, okX8, fl_X8_84⟩
theorem fl_X8_87 : Cond.fieldLink RX8 87 (TX8 44).1 (TX8 44).2.1 (TX8 44).2.2.1 ∈ lw_ok := lw_i4 25 rfl rfl
theorem ff_X8_87 : FFd RX8 87 8 44 := ⟨_, _, _, rfl, by decide, okX8, fl_X8_87⟩
theorem fl_X8_90 : Cond.fieldLink RX8 90 (TX8 45).1 (TX8 45).2.1 (TX8 45).2.2.1 ∈ lw_ok := lw_i4 26 rfl rfl
theorem ff_X8_90 : FFd RX8 90 8 45 := ⟨_, _, _, rfl, by decide, okX8, fl_X8_90⟩
theorem fl_X8_93 : Cond.fieldLink RX8 93 (TX8 46).1 (TX8 46).2.1 (TX8 46).2.2.1 ∈ lw_ok := lw_i4 27 rfl rfl
theorem ff_X8_93 : FFd RX8 93 8 46 := ⟨_, _, _, rfl, by decide, okX8, fl_X8_93⟩
theorem fl_X8_96 : Cond.fieldLink RX8 96 (TX8 47).1 (TX8 47).2.1 (TX8 47).2.2.1 ∈ lw_ok := lw_i4 28 rfl rfl
theorem ff_X8_96 : FFd RX8 96 8 47 := ⟨_, _, _, rfl, by decide, okX8, fl_X8_96⟩
theorem fl_X8_99 : Cond.fieldLink RX8 99 (TX8 0).1 (TX8 0).2.1 (TX8 0).2.2.1 ∈ lw_ok := lw_i3 221 rfl rfl
theorem ff_X8_99 : FFd RX8 99 8 0 := ⟨_, _, _, rfl, by decide, okX8, fl_X8_99⟩
theorem fp_X8_99 : FFp RX8 99 8 0 .int := ⟨_, _, _, tyX8, rfl, by decide, okX8, fl_X8_99, tyX8_ok, nmX8, rfl, by decide +kernel⟩
theorem fl_X8_103 : Cond.fieldLink RX8 103 (TX8 2).1 (TX8 2).2.1 (TX8 2).2.2.1 ∈ lw_ok := lw_i3 223 rfl rfl
theorem ff_X8_103 : FFd RX8 103 8 2 := ⟨_, _, _, rfl, by decide, okX8, fl_X8_103⟩
theorem fp_X8_103 : FFp RX8 103 8 2 .int := ⟨_, _, _, tyX8, rfl, by decide, okX8, fl_X8_103, tyX8_ok, nmX8, rfl, by decide +kernel⟩
theorem fl_X8_110 : Cond.fieldLink RX8 110 (TX8 12).1 (TX8 12).2.1 (TX8 12).2.2.1 ∈ lw_ok := lw_i3 233 rfl rfl
theorem ff_X8_110 : FFd RX8 110 8 12 := ⟨_, _, _, rfl, by decide, okX8, fl_X8_110⟩
theorem fp_X8_110 : FFp RX8 110 8 12 .int := ⟨_, _, _, tyX8, rfl, by decide, okX8, fl_X8_110, tyX8_ok, nmX8, rfl, by decide +kernel⟩
theorem fl_X8_116 : Cond.fieldLink RX8 116 (TX8 16).1 (TX8 16).2.1 (TX8 16).2.2.1 ∈ lw_ok := lw_i3 237 rfl rfl
theorem ff_X8_116 : FFd RX8 116 8 16 := ⟨_, _, _, rfl, by decide, okX8, fl_X8_116⟩
theorem fp_X8_116 : FFp RX8 116 8 16 .int := ⟨_, _, _, tyX8, rfl, by decide, okX8, fl_X8_116, tyX8_ok, nmX8, rfl, by decide +kernel⟩
theorem fl_X8_120 : Cond.fieldLink RX8 120 (TX8 18).1 (TX8 18).2.1 (TX8 18).2.2.1 ∈ lw_ok := lw_i3 239 rfl rfl
theorem ff_X8_120 : FFd RX8 120 8 18 := ⟨_, _, _, rfl, by decide, okX8, fl_X8_120⟩
theorem fp_X8_120 : FFp RX8 120 8 18 .int := ⟨_, _, _, tyX8, rfl, by decide, okX8, fl_X8_120, tyX8_ok, nmX8, rfl, by decide +kernel⟩
theorem fl_X8_135 : Cond.fieldLink RX8 135 (TX8 20).1 (TX8 20).2.1 (TX8 20).2.2.1 ∈ lw_ok := lw_i4 1 rfl rfl
theorem ff_X8_135 : FFd RX8 135 8 20 := ⟨_, _, _, rfl, by decide, okX8, fl_X8_135⟩
theorem fp_X8_135 : FFp RX8 135 8 20 .int := ⟨_, _, _, tyX8, rfl, by decide, okX8, fl_X8_135, tyX8_ok, nmX8, rfl, by decide +kernel⟩
theorem fl_X8_138 : Cond.fieldLink RX8 138 (TX8 19).1 (TX8 19).2.1 (TX8 19).2.2.1 ∈ lw_ok := lw_i4 0 rfl rfl
theorem ff_X8_138 : FFd RX8 138 8 19 := ⟨_, _, _, rfl, by decide, okX8, fl_X8_138⟩
theorem fp_X8_138 : FFp RX8 138 8 19 .int := ⟨_, _, _, tyX8, rfl, by decide, okX8, fl_X8_138, tyX8_ok, nmX8, rfl, by decide +kernel⟩
theorem fl_X8_148 : Cond.fieldLink RX8 148 (TX8 22).1 (TX8 22).2.1 (TX8 22).2.2.1 ∈ lw_ok := lw_i4 3 rfl rfl
theorem ff_X8_148 : FFd RX8 148 8 22 := ⟨_, _, _, rfl, by decide, okX8, fl_X8_148⟩
theorem fp_X8_148 : FFp RX8 148 8 22 .int := ⟨_, _, _, tyX8, rfl, by decide, okX8, fl_X8_148, tyX8_ok, nmX8, rfl, by decide +kernel⟩
theorem fl_X8_151 : Cond.fieldLink RX8 151 (TX8 24).1 (TX8 24).2.1 (TX8 24).2.2.1 ∈ lw_ok := lw_i4 5 rfl rfl
theorem ff_X8_151 : FFd RX8 151 8 24 := ⟨_, _, _, rfl, by decide, okX8, fl_X8_151⟩
theorem fp_X8_151 : FFp RX8 151 8 24 .int := ⟨_, _, _, tyX8, rfl, by decide, okX8, fl_X8_151, tyX8_ok, nmX8, rfl, by decide +kernel⟩
theorem fl_X8_154 : Cond.fieldLink RX8 154 (TX8 28).1 (TX8 28).2.1 (TX8 28).2.2.1 ∈ lw_ok := lw_i4 9 rfl rfl
theorem ff_X8_154 : FFd RX8 154 8 28 := ⟨_, _, _, rfl, by decide, okX8, fl_X8_154⟩
theorem fp_X8_154 : FFp RX8 154 8 28 .int := ⟨_, _, _, tyX8, rfl, by decide, okX8, fl_X8_154, tyX8_ok, nmX8, rfl, by decide +kernel⟩
theorem fl_X8_157 : Cond.fieldLink RX8 157 (TX8 32).1 (TX8 32).2.1 (TX8 32).2.2.1 ∈ lw_ok := lw_i4 13 rfl rfl
theorem ff_X8_157 : FFd RX8 157 8 32 := ⟨_, _, _, rfl, by decide, okX8, fl_X8_157⟩
theorem fp_X8_157 : FFp RX8 157 8 32 .int := ⟨_, _, _, tyX8, rfl, by decide, okX8, fl_X8_157, tyX8_ok, nmX8, rfl, by decide +kernel⟩
theorem fl_X8_164 : Cond.fieldLink RX8 164 (TX8 33).1 (TX8 33).2.1 (TX8 33).2.2.1 ∈ lw_ok := lw_i4 14 rfl rfl
theorem ff_X8_164 : FFd RX8 164 8 33 := ⟨_, _, _, rfl, by decide, okX8, fl_X8_164⟩
theorem fp_X8_164 : FFp RX8 164 8 33 .int := ⟨_, _, _, tyX8, rfl, by decide, okX8, fl_X8_164, tyX8_ok, nmX8, rfl, by decide +kernel⟩
theorem fl_X8_196 : Cond.fieldLink RX8 196 (TX8 1).1 (TX8 1).2.1 (TX8 1).2.2.1 ∈ lw_ok := lw_i3 222 rfl rfl
theorem ff_X8_196 : FFd RX8 196 8 1 := ⟨_, _, _, rfl, by decide, okX8, fl_X8_196⟩
theorem fp_X8_196 : FFp RX8 196 8 1 .int := ⟨_, _, _, tyX8, rfl, by decide, okX8, fl_X8_196, tyX8_ok, nmX8, rfl, by decide +kernel⟩
theorem fl_X8_199 : Cond.fieldLink RX8 199 (TX8 4).1 (TX8 4).2.1 (TX8 4).2.2.1 ∈ lw_ok := lw_i3 225 rfl rfl
theorem ff_X8_199 : FFd RX8 199 8 4 := ⟨_, _, _, rfl, by decide, okX8, fl_X8_199⟩
theorem fp_X8_199 : FFp RX8 199 8 4 .int := ⟨_, _, _, tyX8, rfl, by decide, okX8, fl_X8_199, tyX8_ok, nmX8, rfl, by decide +kernel⟩
theorem fl_X8_202 : Cond.fieldLink RX8 202 (TX8 8).1 (TX8 8).2.1 (TX8 8).2.2.1 ∈ lw_ok := lw_i3 229 rfl rfl
theorem ff_X8_202 : FFd RX8 202 8 8 := ⟨_, _, _, rfl, by decide, okX8, fl_X8_202⟩
theorem fp_X8_202 : FFp RX8 202 8 8 .int := ⟨_, _, _, tyX8, rfl, by decide, okX8, fl_X8_202, tyX8_ok, nmX8, rfl, by decide +kernel⟩
theorem fl_X8_211 : Cond.fieldLink RX8 211 (TX8 38).1 (TX8 38).2.1 (TX8 38).2.2.1 ∈ lw_ok := lw_i4 19 rfl rfl
theorem ff_X8_211 : FFd RX8 211 8 38 := ⟨_, _, _, rfl, by decide, okX8, fl_X8_211⟩
theorem fp_X8_211 : FFp RX8 211 8 38 .int := ⟨_, _, _, tyX8, rfl, by decide, okX8, fl_X8_211, tyX8_ok, nmX8, rfl, by decide +kernel⟩
theorem fl_X8_214 : Cond.fieldLink RX8 214 (TX8 43).1 (TX8 43).2.1 (TX8 43).2.2.1 ∈ lw_ok := lw_i4 24 rfl rfl
theorem ff_X8_214 : FFd RX8 214 8 43 := ⟨_, _, _, rfl, by decide, okX8, fl_X8_214⟩
theorem fp_X8_214 : FFp RX8 214 8 43 .int := ⟨_, _, _, tyX8, rfl, by decide, okX8, fl_X8_214, tyX8_ok, nmX8, rfl, by decide +kernel⟩
theorem fl_X8_217 : Cond.fieldLink RX8 217 (TX8 35).1 (TX8 35).2.1 (TX8 35).2.2.1 ∈ lw_ok := lw_i4 16 rfl rfl
theorem ff_X8_217 : FFd RX8 217 8 35 := ⟨_, _, _, rfl, by decide, okX8, fl_X8_217⟩
theorem fp_X8_217 : FFp RX8 217 8 35 .int := ⟨_, _, _, tyX8, rfl, by decide, okX8, fl_X8_217, tyX8_ok, nmX8, rfl, by decide +kernel⟩
theorem fl_X8_273 : Cond.fieldLink RX8 273 (TX8 14).1 (TX8 14).2.1 (TX8 14).2.2.1 ∈ lw_ok := lw_i3 235 rfl rfl
theorem ff_X8_273 : FFd RX8 273 8 14 := ⟨_, _, _, rfl, by decide, okX8, fl_X8_273⟩
theorem fp_X8_273 : FFp RX8 273 8 14 .int := ⟨_, _, _, tyX8, rfl, by decide, okX8, fl_X8_273, tyX8_ok, nmX8, rfl, by decide +kernel⟩
theorem nh_X0 : RX0 ≠ "java/lang/invoke/MethodHandle" ∧ RX0 ≠ "java/lang/invoke/VarHandle" ∧ Cond.initialized RX0 ∈ lw_ok := ⟨by decide +kernel, by decide +kernel, lw_i1 8 rfl rfl⟩
theorem nh_X1 : RX1 ≠ "java/lang/invoke/MethodHandle" ∧ RX1 ≠ "java/lang/invoke/VarHandle" ∧ Cond.initialized RX1 ∈ lw_ok := ⟨by decide +kernel, by decide +kernel, lw_i1 3 rfl rfl⟩
theorem nh_X2 : RX2 ≠ "java/lang/invoke/MethodHandle" ∧ RX2 ≠ "java/lang/invoke/VarHandle" ∧ Cond.initialized RX2 ∈ lw_ok := ⟨by decide +kernel, by decide +kernel, lw_i1 6 rfl rfl⟩
theorem nh_X3 : RX3 ≠ "java/lang/invoke/MethodHandle" ∧ RX3 ≠ "java/lang/invoke/VarHandle" ∧ Cond.initialized RX3 ∈ lw_ok := ⟨by decide +kernel, by decide +kernel, lw_i1 5 rfl rfl⟩
theorem nh_X4 : RX4 ≠ "java/lang/invoke/MethodHandle" ∧ RX4 ≠ "java/lang/invoke/VarHandle" ∧ Cond.initialized RX4 ∈ lw_ok := ⟨by decide +kernel, by decide +kernel, lw_i1 4 rfl rfl⟩
theorem nh_X5 : RX5 ≠ "java/lang/invoke/MethodHandle" ∧ RX5 ≠ "java/lang/invoke/VarHandle" ∧ Cond.initialized RX5 ∈ lw_ok := ⟨by decide +kernel, by decide +kernel, lw_i1 7 rfl rfl⟩
theorem nh_X6 : RX6 ≠ "java/lang/invoke/MethodHandle" ∧ RX6 ≠ "java/lang/invoke/VarHandle" ∧ Cond.initialized RX6 ∈ lw_ok := ⟨by decide +kernel, by decide +kernel, lw_i1 2 rfl rfl⟩
theorem nh_X7 : RX7 ≠ "java/lang/invoke/MethodHandle" ∧ RX7 ≠ "java/lang/invoke/VarHandle" ∧ Cond.initialized RX7 ∈ lw_ok := ⟨by decide +kernel, by decide +kernel, lw_i1 1 rfl rfl⟩
theorem nh_X8 : RX8 ≠ "java/lang/invoke/MethodHandle" ∧ RX8 ≠ "java/lang/invoke/VarHandle" ∧ Cond.initialized RX8 ∈ lw_ok := ⟨by decide +kernel, by decide +kernel, lw_i1 9 rfl rfl⟩
theorem nh_J6 : RJ6 ≠ "java/lang/invoke/MethodHandle" ∧ RJ6 ≠ "java/lang/invoke/VarHandle" ∧ Cond.initialized RJ6 ∈ lw_ok := ⟨by decide +kernel, by decide +kernel, lw_i1 11 rfl rfl⟩
theorem nh_J9 : RJ9 ≠ "java/lang/invoke/MethodHandle" ∧ RJ9 ≠ "java/lang/invoke/VarHandle" ∧ Cond.initialized RJ9 ∈ lw_ok := ⟨by decide +kernel, by decide +kernel, lw_i1 10 rfl rfl⟩
theorem nh_L : RL ≠ "java/lang/invoke/MethodHandle" ∧ RL ≠ "java/lang/invoke/VarHandle" ∧ Cond.initialized RL ∈ lw_ok := ⟨by decide +kernel, by decide +kernel, lw_i1 0 rfl rfl⟩
theorem my_X0_init : MY yX0_init cX0_init 1 none 0 := ⟨lw_i2 6 rfl rfl, nh_X0.1, nh_X0.2.1, by decide +kernel, nh_X0.2.2⟩
theorem my_X0_append : MY yX0_append cX0_append 3 (some .boolean) 2 := ⟨lw_i3 184 rfl rfl, nh_X0.1, nh_X0.2.1, by decide +kernel, nh_X0.2.2⟩
theorem mx_X0_append : Cond.instanceMethod yX0_append ∈ lw_ok ∧ Cond.selects yX0_append.cls yX0_append yX0_append ∈ lw_ok := ⟨lw_i3 182 rfl rfl, lw_i3 183 rfl rfl⟩
theorem my_X0_firstWrong : MY yX0_firstWrong cX0_firstWrong 3 (some .int) 1 := ⟨lw_i3 196 rfl rfl, nh_X0.1, nh_X0.2.1, by decide +kernel, nh_X0.2.2⟩
theorem mx_X0_firstWrong : Cond.instanceMethod yX0_firstWrong ∈ lw_ok ∧ Cond.selects yX0_firstWrong.cls yX0_firstWrong yX0_firstWrong ∈ lw_ok := ⟨lw_i3 194 rfl rfl, lw_i3 195 rfl rfl⟩
theorem my_X1_init : MY yX1_init cX1_init 1 none 0 := ⟨lw_i1 30 rfl rfl, nh_X1.1, nh_X1.2.1, by decide +kernel, nh_X1.2.2⟩
theorem my_X1_clear : MY yX1_clear cX1_clear 1 none 0 := ⟨lw_i2 70 rfl rfl, nh_X1.1, nh_X1.2.1, by decide +kernel, nh_X1.2.2⟩
theorem mx_X1_clear : Cond.instanceMethod yX1_clear ∈ lw_ok ∧ Cond.selects yX1_clear.cls yX1_clear yX1_clear ∈ lw_ok := ⟨lw_i2 68 rfl rfl, lw_i2 69 rfl rfl⟩
theorem my_X1_isIdea : MY yX1_isIdea cX1_isIdea 2 (some .boolean) 1 := ⟨lw_i2 204 rfl rfl, nh_X1.1, nh_X1.2.1, by decide +kernel, nh_X1.2.2⟩
theorem mx_X1_isIdea : Cond.instanceMethod yX1_isIdea ∈ lw_ok ∧ Cond.selects yX1_isIdea.cls yX1_isIdea yX1_isIdea ∈ lw_ok := ⟨lw_i2 202 rfl rfl, lw_i2 203 rfl rfl⟩
theorem my_X1_isTraveller : MY yX1_isTraveller cX1_isTraveller 2 (some .boolean) 1 := ⟨lw_i2 152 rfl rfl, nh_X1.1, nh_X1.2.1, by decide +kernel, nh_X1.2.2⟩
theorem mx_X1_isTraveller : Cond.instanceMethod yX1_isTraveller ∈ lw_ok ∧ Cond.selects yX1_isTraveller.cls yX1_isTraveller yX1_isTraveller ∈ lw_ok := ⟨lw_i2 150 rfl rfl, lw_i2 151 rfl rfl⟩
theorem my_X1_isSet : MY yX1_isSet cX1_isSet 2 (some .boolean) 1 := ⟨lw_i2 176 rfl rfl, nh_X1.1, nh_X1.2.1, by decide +kernel, nh_X1.2.2⟩
theorem mx_X1_isSet : Cond.instanceMethod yX1_isSet ∈ lw_ok ∧ Cond.selects yX1_isSet.cls yX1_isSet yX1_isSet ∈ lw_ok := ⟨lw_i2 174 rfl rfl, lw_i2 175 rfl rfl⟩
theorem my_X1_findAllFrom : MY yX1_findAllFrom cX1_findAllFrom 3 none 0 := ⟨lw_i2 140 rfl rfl, nh_X1.1, nh_X1.2.1, by decide +kernel, nh_X1.2.2⟩
theorem mx_X1_findAllFrom : Cond.instanceMethod yX1_findAllFrom ∈ lw_ok ∧ Cond.selects yX1_findAllFrom.cls yX1_findAllFrom yX1_findAllFrom ∈ lw_ok := ⟨lw_i2 138 rfl rfl, lw_i2 139 rfl rfl⟩
theorem my_X1_joined : MY yX1_joined cX1_joined 7 (some .int) 1 := ⟨lw_i2 144 rfl rfl, nh_X1.1, nh_X1.2.1, by decide +kernel, nh_X1.2.2⟩
theorem mx_X1_joined : Cond.instanceMethod yX1_joined ∈ lw_ok ∧ Cond.selects yX1_joined.cls yX1_joined yX1_joined ∈ lw_ok := ⟨lw_i2 143 rfl rfl, lw_s 14 rfl rfl⟩
theorem my_X1_allFrom : MY yX1_allFrom cX1_allFrom 2 (some .int) 1 := ⟨lw_i2 172 rfl rfl, nh_X1.1, nh_X1.2.1, by decide +kernel, nh_X1.2.2⟩
theorem mx_X1_allFrom : Cond.instanceMethod yX1_allFrom ∈ lw_ok ∧ Cond.selects yX1_allFrom.cls yX1_allFrom yX1_allFrom ∈ lw_ok := ⟨lw_i2 170 rfl rfl, lw_i2 171 rfl rfl⟩
theorem my_X1_sizeOf : MY yX1_sizeOf cX1_sizeOf 4 (some .int) 1 := ⟨lw_i2 196 rfl rfl, nh_X1.1, nh_X1.2.1, by decide +kernel, nh_X1.2.2⟩
theorem mx_X1_sizeOf : Cond.instanceMethod yX1_sizeOf ∈ lw_ok ∧ Cond.selects yX1_sizeOf.cls yX1_sizeOf yX1_sizeOf ∈ lw_ok := ⟨lw_i2 194 rfl rfl, lw_i2 195 rfl rfl⟩
theorem my_X1_isStuck : MY yX1_isStuck cX1_isStuck 2 (some .boolean) 1 := ⟨lw_i2 192 rfl rfl, nh_X1.1, nh_X1.2.1, by decide +kernel, nh_X1.2.2⟩
theorem mx_X1_isStuck : Cond.instanceMethod yX1_isStuck ∈ lw_ok ∧ Cond.selects yX1_isStuck.cls yX1_isStuck yX1_isStuck ∈ lw_ok := ⟨lw_i2 190 rfl rfl, lw_i2 191 rfl rfl⟩
theorem my_X1_duty : MY yX1_duty cX1_duty 7 (some .int) 2 := ⟨lw_i2 219 rfl rfl, nh_X1.1, nh_X1.2.1, by decide +kernel, nh_X1.2.2⟩
theorem mx_X1_duty : Cond.instanceMethod yX1_duty ∈ lw_ok ∧ Cond.selects yX1_duty.cls yX1_duty yX1_duty ∈ lw_ok := ⟨lw_i2 217 rfl rfl, lw_i2 218 rfl rfl⟩
theorem my_X1_quickest : MY yX1_quickest cX1_quickest 6 (some .int) 2 := ⟨lw_i3 17 rfl rfl, nh_X1.1, nh_X1.2.1, by decide +kernel, nh_X1.2.2⟩
theorem mx_X1_quickest : Cond.instanceMethod yX1_quickest ∈ lw_ok ∧ Cond.selects yX1_quickest.cls yX1_quickest yX1_quickest ∈ lw_ok := ⟨lw_i3 15 rfl rfl, lw_i3 16 rfl rfl⟩
theorem my_X1_findMinutes : MY yX1_findMinutes cX1_findMinutes 7 none 2 := ⟨lw_i3 86 rfl rfl, nh_X1.1, nh_X1.2.1, by decide +kernel, nh_X1.2.2⟩
theorem mx_X1_findMinutes : Cond.instanceMethod yX1_findMinutes ∈ lw_ok ∧ Cond.selects yX1_findMinutes.cls yX1_findMinutes yX1_findMinutes ∈ lw_ok := ⟨lw_i3 84 rfl rfl, lw_i3 85 rfl rfl⟩
theorem my_X2_init : MY yX2_init cX2_init 2 none 0 := ⟨lw_i1 189 rfl rfl, nh_X2.1, nh_X2.2.1, by decide +kernel, nh_X2.2.2⟩
theorem my_X2_take : MY yX2_take cX2_take 4 none 3 := ⟨lw_i3 208 rfl rfl, nh_X2.1, nh_X2.2.1, by decide +kernel, nh_X2.2.2⟩
theorem mx_X2_take : Cond.instanceMethod yX2_take ∈ lw_ok ∧ Cond.selects yX2_take.cls yX2_take yX2_take ∈ lw_ok := ⟨lw_i3 206 rfl rfl, lw_i3 207 rfl rfl⟩
theorem my_X2_forget : MY yX2_forget cX2_forget 2 none 0 := ⟨lw_i2 156 rfl rfl, nh_X2.1, nh_X2.2.1, by decide +kernel, nh_X2.2.2⟩
theorem mx_X2_forget : Cond.instanceMethod yX2_forget ∈ lw_ok ∧ Cond.selects yX2_forget.cls yX2_forget yX2_forget ∈ lw_ok := ⟨lw_i2 154 rfl rfl, lw_i2 155 rfl rfl⟩
theorem my_X3_init : MY yX3_init cX3_init 2 none 0 := ⟨lw_i1 169 rfl rfl, nh_X3.1, nh_X3.2.1, by decide +kernel, nh_X3.2.2⟩
theorem my_X3_remember : MY yX3_remember cX3_remember 2 none 1 := ⟨lw_i2 229 rfl rfl, nh_X3.1, nh_X3.2.1, by decide +kernel, nh_X3.2.2⟩
theorem mx_X3_remember : Cond.instanceMethod yX3_remember ∈ lw_ok ∧ Cond.selects yX3_remember.cls yX3_remember yX3_remember ∈ lw_ok := ⟨lw_i2 227 rfl rfl, lw_i2 228 rfl rfl⟩
theorem my_X3_bringBack : MY yX3_bringBack cX3_bringBack 2 none 1 := ⟨lw_i3 62 rfl rfl, nh_X3.1, nh_X3.2.1, by decide +kernel, nh_X3.2.2⟩
theorem mx_X3_bringBack : Cond.instanceMethod yX3_bringBack ∈ lw_ok ∧ Cond.selects yX3_bringBack.cls yX3_bringBack yX3_bringBack ∈ lw_ok := ⟨lw_i3 60 rfl rfl, lw_i3 61 rfl rfl⟩
theorem my_X4_init : MY yX4_init cX4_init 1 none 0 := ⟨lw_i1 143 rfl rfl, nh_X4.1, nh_X4.2.1, by decide +kernel, nh_X4.2.2⟩
theorem my_X4_begin : MY yX4_begin cX4_begin 3 none 1 := ⟨lw_i2 148 rfl rfl, nh_X4.1, nh_X4.2.1, by decide +kernel, nh_X4.2.2⟩
theorem mx_X4_begin : Cond.instanceMethod yX4_begin ∈ lw_ok ∧ Cond.selects yX4_begin.cls yX4_begin yX4_begin ∈ lw_ok := ⟨lw_i2 146 rfl rfl, lw_i2 147 rfl rfl⟩
theorem my_X4_become : MY yX4_become cX4_become 3 none 1 := ⟨lw_i2 233 rfl rfl, nh_X4.1, nh_X4.2.1, by decide +kernel, nh_X4.2.2⟩
theorem mx_X4_become : Cond.instanceMethod yX4_become ∈ lw_ok ∧ Cond.selects yX4_become.cls yX4_become yX4_become ∈ lw_ok := ⟨lw_i2 231 rfl rfl, lw_i2 232 rfl rfl⟩
theorem my_X4_mindOf : MY yX4_mindOf cX4_mindOf 2 (some .int) 1 := ⟨lw_i2 188 rfl rfl, nh_X4.1, nh_X4.2.1, by decide +kernel, nh_X4.2.2⟩
theorem mx_X4_mindOf : Cond.instanceMethod yX4_mindOf ∈ lw_ok ∧ Cond.selects yX4_mindOf.cls yX4_mindOf yX4_mindOf ∈ lw_ok := ⟨lw_i2 186 rfl rfl, lw_i2 187 rfl rfl⟩
theorem my_X4_setMind : MY yX4_setMind cX4_setMind 3 none 2 := ⟨lw_i3 24 rfl rfl, nh_X4.1, nh_X4.2.1, by decide +kernel, nh_X4.2.2⟩
theorem mx_X4_setMind : Cond.instanceMethod yX4_setMind ∈ lw_ok ∧ Cond.selects yX4_setMind.cls yX4_setMind yX4_setMind ∈ lw_ok := ⟨lw_i3 22 rfl rfl, lw_i3 23 rfl rfl⟩
theorem my_X4_isGone : MY yX4_isGone cX4_isGone 2 (some .boolean) 1 := ⟨lw_i2 184 rfl rfl, nh_X4.1, nh_X4.2.1, by decide +kernel, nh_X4.2.2⟩
theorem mx_X4_isGone : Cond.instanceMethod yX4_isGone ∈ lw_ok ∧ Cond.selects yX4_isGone.cls yX4_isGone yX4_isGone ∈ lw_ok := ⟨lw_i2 182 rfl rfl, lw_i2 183 rfl rfl⟩
theorem my_X4_comes : MY yX4_comes cX4_comes 3 none 2 := ⟨lw_i3 33 rfl rfl, nh_X4.1, nh_X4.2.1, by decide +kernel, nh_X4.2.2⟩
theorem mx_X4_comes : Cond.instanceMethod yX4_comes ∈ lw_ok ∧ Cond.selects yX4_comes.cls yX4_comes yX4_comes ∈ lw_ok := ⟨lw_i3 31 rfl rfl, lw_i3 32 rfl rfl⟩
theorem my_X4_leaves : MY yX4_leaves cX4_leaves 3 none 2 := ⟨lw_i3 4 rfl rfl, nh_X4.1, nh_X4.2.1, by decide +kernel, nh_X4.2.2⟩
theorem mx_X4_leaves : Cond.instanceMethod yX4_leaves ∈ lw_ok ∧ Cond.selects yX4_leaves.cls yX4_leaves yX4_leaves ∈ lw_ok := ⟨lw_i3 2 rfl rfl, lw_i3 3 rfl rfl⟩
theorem my_X5_init : MY yX5_init cX5_init 1 none 0 := ⟨lw_i1 211 rfl rfl, nh_X5.1, nh_X5.2.1, by decide +kernel, nh_X5.2.2⟩
theorem my_X5_append : MY yX5_append cX5_append 4 (some .boolean) 3 := ⟨lw_i3 145 rfl rfl, nh_X5.1, nh_X5.2.1, by decide +kernel, nh_X5.2.2⟩
theorem mx_X5_append : Cond.instanceMethod yX5_append ∈ lw_ok ∧ Cond.selects yX5_append.cls yX5_append yX5_append ∈ lw_ok := ⟨lw_i3 143 rfl rfl, lw_i3 144 rfl rfl⟩
theorem my_X5_look : MY yX5_look cX5_look 4 none 1 := ⟨lw_i3 153 rfl rfl, nh_X5.1, nh_X5.2.1, by decide +kernel, nh_X5.2.2⟩
theorem mx_X5_look : Cond.instanceMethod yX5_look ∈ lw_ok ∧ Cond.selects yX5_look.cls yX5_look yX5_look ∈ lw_ok := ⟨lw_i3 151 rfl rfl, lw_i3 152 rfl rfl⟩
theorem my_X5_countIdeas : MY yX5_countIdeas cX5_countIdeas 3 none 1 := ⟨lw_i3 165 rfl rfl, nh_X5.1, nh_X5.2.1, by decide +kernel, nh_X5.2.2⟩
theorem mx_X5_countIdeas : Cond.instanceMethod yX5_countIdeas ∈ lw_ok ∧ Cond.selects yX5_countIdeas.cls yX5_countIdeas yX5_countIdeas ∈ lw_ok := ⟨lw_i3 164 rfl rfl, lw_s 26 rfl rfl⟩
theorem my_X5_fits : MY yX5_fits cX5_fits 3 (some .boolean) 1 := ⟨lw_i3 157 rfl rfl, nh_X5.1, nh_X5.2.1, by decide +kernel, nh_X5.2.2⟩
theorem mx_X5_fits : Cond.instanceMethod yX5_fits ∈ lw_ok ∧ Cond.selects yX5_fits.cls yX5_fits yX5_fits ∈ lw_ok := ⟨lw_i3 156 rfl rfl, lw_s 25 rfl rfl⟩
theorem my_X5_isSo : MY yX5_isSo cX5_isSo 3 (some .boolean) 3 := ⟨lw_i3 160 rfl rfl, nh_X5.1, nh_X5.2.1, by decide +kernel, nh_X5.2.2⟩
theorem mx_X5_isSo : Cond.static yX5_isSo ∈ lw_ok := lw_i3 159 rfl rfl
theorem my_X5_bestIdea : MY yX5_bestIdea cX5_bestIdea 5 (some .int) 0 := ⟨lw_i3 173 rfl rfl, nh_X5.1, nh_X5.2.1, by decide +kernel, nh_X5.2.2⟩
theorem mx_X5_bestIdea : Cond.instanceMethod yX5_bestIdea ∈ lw_ok ∧ Cond.selects yX5_bestIdea.cls yX5_bestIdea yX5_bestIdea ∈ lw_ok := ⟨lw_i3 171 rfl rfl, lw_i3 172 rfl rfl⟩
theorem my_X6_init : MY yX6_init cX6_init 1 none 0 := ⟨lw_i1 24 rfl rfl, nh_X6.1, nh_X6.2.1, by decide +kernel, nh_X6.2.2⟩
theorem my_X6_append : MY yX6_append cX6_append 2 (some .boolean) 1 := ⟨lw_i2 57 rfl rfl, nh_X6.1, nh_X6.2.1, by decide +kernel, nh_X6.2.2⟩
theorem mx_X6_append : Cond.instanceMethod yX6_append ∈ lw_ok ∧ Cond.selects yX6_append.cls yX6_append yX6_append ∈ lw_ok := ⟨lw_i2 55 rfl rfl, lw_i2 56 rfl rfl⟩
theorem my_X6_exchange : MY yX6_exchange cX6_exchange 3 (some (.object "MindDuty$Country")) 1 := ⟨lw_i2 136 rfl rfl, nh_X6.1, nh_X6.2.1, by decide +kernel, nh_X6.2.2⟩
theorem mx_X6_exchange : Cond.instanceMethod yX6_exchange ∈ lw_ok ∧ Cond.selects yX6_exchange.cls yX6_exchange yX6_exchange ∈ lw_ok := ⟨lw_i2 134 rfl rfl, lw_i2 135 rfl rfl⟩
theorem my_X6_read : MY yX6_read cX6_read 2 (some .boolean) 0 := ⟨lw_i2 66 rfl rfl, nh_X6.1, nh_X6.2.1, by decide +kernel, nh_X6.2.2⟩
theorem mx_X6_read : Cond.instanceMethod yX6_read ∈ lw_ok ∧ Cond.selects yX6_read.cls yX6_read yX6_read ∈ lw_ok := ⟨lw_i2 64 rfl rfl, lw_i2 65 rfl rfl⟩
theorem my_X6_readClause : MY yX6_readClause cX6_readClause 2 none 0 := ⟨lw_i2 78 rfl rfl, nh_X6.1, nh_X6.2.1, by decide +kernel, nh_X6.2.2⟩
theorem mx_X6_readClause : Cond.instanceMethod yX6_readClause ∈ lw_ok ∧ Cond.selects yX6_readClause.cls yX6_readClause yX6_readClause ∈ lw_ok := ⟨lw_i2 77 rfl rfl, lw_s 1 rfl rfl⟩
theorem my_X6_checkWord : MY yX6_checkWord cX6_checkWord 4 none 1 := ⟨lw_i2 86 rfl rfl, nh_X6.1, nh_X6.2.1, by decide +kernel, nh_X6.2.2⟩
theorem mx_X6_checkWord : Cond.instanceMethod yX6_checkWord ∈ lw_ok ∧ Cond.selects yX6_checkWord.cls yX6_checkWord yX6_checkWord ∈ lw_ok := ⟨lw_i2 85 rfl rfl, lw_s 3 rfl rfl⟩
theorem my_X6_readGate : MY yX6_readGate cX6_readGate 1 none 0 := ⟨lw_i2 94 rfl rfl, nh_X6.1, nh_X6.2.1, by decide +kernel, nh_X6.2.2⟩
theorem mx_X6_readGate : Cond.instanceMethod yX6_readGate ∈ lw_ok ∧ Cond.selects yX6_readGate.cls yX6_readGate yX6_readGate ∈ lw_ok := ⟨lw_i2 93 rfl rfl, lw_s 5 rfl rfl⟩
theorem my_X6_readIdea : MY yX6_readIdea cX6_readIdea 2 none 0 := ⟨lw_i2 108 rfl rfl, nh_X6.1, nh_X6.2.1, by decide +kernel, nh_X6.2.2⟩
theorem mx_X6_readIdea : Cond.instanceMethod yX6_readIdea ∈ lw_ok ∧ Cond.selects yX6_readIdea.cls yX6_readIdea yX6_readIdea ∈ lw_ok := ⟨lw_i2 107 rfl rfl, lw_s 7 rfl rfl⟩
theorem my_X6_readJoining : MY yX6_readJoining cX6_readJoining 4 none 0 := ⟨lw_i2 112 rfl rfl, nh_X6.1, nh_X6.2.1, by decide +kernel, nh_X6.2.2⟩
theorem mx_X6_readJoining : Cond.instanceMethod yX6_readJoining ∈ lw_ok ∧ Cond.selects yX6_readJoining.cls yX6_readJoining yX6_readJoining ∈ lw_ok := ⟨lw_i2 111 rfl rfl, lw_s 8 rfl rfl⟩
theorem my_X6_readTalk : MY yX6_readTalk cX6_readTalk 4 none 0 := ⟨lw_i2 120 rfl rfl, nh_X6.1, nh_X6.2.1, by decide +kernel, nh_X6.2.2⟩
theorem mx_X6_readTalk : Cond.instanceMethod yX6_readTalk ∈ lw_ok ∧ Cond.selects yX6_readTalk.cls yX6_readTalk yX6_readTalk ∈ lw_ok := ⟨lw_i2 119 rfl rfl, lw_s 10 rfl rfl⟩
theorem my_X6_readRegistered : MY yX6_readRegistered cX6_readRegistered 2 none 0 := ⟨lw_i2 124 rfl rfl, nh_X6.1, nh_X6.2.1, by decide +kernel, nh_X6.2.2⟩
theorem mx_X6_readRegistered : Cond.instanceMethod yX6_readRegistered ∈ lw_ok ∧ Cond.selects yX6_readRegistered.cls yX6_readRegistered yX6_readRegistered ∈ lw_ok := ⟨lw_i2 123 rfl rfl, lw_s 11 rfl rfl⟩
theorem my_X6_readTraveller : MY yX6_readTraveller cX6_readTraveller 2 none 0 := ⟨lw_i2 128 rfl rfl, nh_X6.1, nh_X6.2.1, by decide +kernel, nh_X6.2.2⟩
theorem mx_X6_readTraveller : Cond.instanceMethod yX6_readTraveller ∈ lw_ok ∧ Cond.selects yX6_readTraveller.cls yX6_readTraveller yX6_readTraveller ∈ lw_ok := ⟨lw_i2 127 rfl rfl, lw_s 12 rfl rfl⟩
theorem my_X6_readEnd : MY yX6_readEnd cX6_readEnd 1 none 0 := ⟨lw_i2 132 rfl rfl, nh_X6.1, nh_X6.2.1, by decide +kernel, nh_X6.2.2⟩
theorem mx_X6_readEnd : Cond.instanceMethod yX6_readEnd ∈ lw_ok ∧ Cond.selects yX6_readEnd.cls yX6_readEnd yX6_readEnd ∈ lw_ok := ⟨lw_i2 131 rfl rfl, lw_s 13 rfl rfl⟩
theorem my_X6_readToldIdea : MY yX6_readToldIdea cX6_readToldIdea 1 (some .int) 0 := ⟨lw_i2 116 rfl rfl, nh_X6.1, nh_X6.2.1, by decide +kernel, nh_X6.2.2⟩
theorem mx_X6_readToldIdea : Cond.instanceMethod yX6_readToldIdea ∈ lw_ok ∧ Cond.selects yX6_readToldIdea.cls yX6_readToldIdea yX6_readToldIdea ∈ lw_ok := ⟨lw_i2 115 rfl rfl, lw_s 9 rfl rfl⟩
theorem my_X6_readNumber : MY yX6_readNumber cX6_readNumber 5 (some .int) 2 := ⟨lw_i2 98 rfl rfl, nh_X6.1, nh_X6.2.1, by decide +kernel, nh_X6.2.2⟩
theorem mx_X6_readNumber : Cond.instanceMethod yX6_readNumber ∈ lw_ok ∧ Cond.selects yX6_readNumber.cls yX6_readNumber yX6_readNumber ∈ lw_ok := ⟨lw_i2 97 rfl rfl, lw_s 6 rfl rfl⟩
theorem my_X6_isFigure : MY yX6_isFigure cX6_isFigure 1 (some .boolean) 1 := ⟨lw_i2 101 rfl rfl, nh_X6.1, nh_X6.2.1, by decide +kernel, nh_X6.2.2⟩
theorem mx_X6_isFigure : Cond.static yX6_isFigure ∈ lw_ok := lw_i2 100 rfl rfl
theorem my_X6_letterHere : MY yX6_letterHere cX6_letterHere 1 (some .int) 0 := ⟨lw_i2 82 rfl rfl, nh_X6.1, nh_X6.2.1, by decide +kernel, nh_X6.2.2⟩
theorem mx_X6_letterHere : Cond.instanceMethod yX6_letterHere ∈ lw_ok ∧ Cond.selects yX6_letterHere.cls yX6_letterHere yX6_letterHere ∈ lw_ok := ⟨lw_i2 81 rfl rfl, lw_s 2 rfl rfl⟩
theorem my_X6_skipBlanks : MY yX6_skipBlanks cX6_skipBlanks 1 none 0 := ⟨lw_i2 74 rfl rfl, nh_X6.1, nh_X6.2.1, by decide +kernel, nh_X6.2.2⟩
theorem mx_X6_skipBlanks : Cond.instanceMethod yX6_skipBlanks ∈ lw_ok ∧ Cond.selects yX6_skipBlanks.cls yX6_skipBlanks yX6_skipBlanks ∈ lw_ok := ⟨lw_i2 73 rfl rfl, lw_s 0 rfl rfl⟩
theorem my_X6_findFault : MY yX6_findFault cX6_findFault 3 none 2 := ⟨lw_i2 90 rfl rfl, nh_X6.1, nh_X6.2.1, by decide +kernel, nh_X6.2.2⟩
theorem mx_X6_findFault : Cond.instanceMethod yX6_findFault ∈ lw_ok ∧ Cond.selects yX6_findFault.cls yX6_findFault yX6_findFault ∈ lw_ok := ⟨lw_i2 89 rfl rfl, lw_s 4 rfl rfl⟩
theorem my_X7_init : MY yX7_init cX7_init 1 none 0 := ⟨lw_i1 16 rfl rfl, nh_X7.1, nh_X7.2.1, by decide +kernel, nh_X7.2.2⟩
theorem my_X7_feed : MY yX7_feed cX7_feed 2 (some .int) 1 := ⟨lw_i2 52 rfl rfl, nh_X7.1, nh_X7.2.1, by decide +kernel, nh_X7.2.2⟩
theorem mx_X7_feed : Cond.instanceMethod yX7_feed ∈ lw_ok ∧ Cond.selects yX7_feed.cls yX7_feed yX7_feed ∈ lw_ok := ⟨lw_i2 50 rfl rfl, lw_i2 51 rfl rfl⟩
theorem my_X7_thePass : MY yX7_thePass cX7_thePass 2 (some .int) 0 := ⟨lw_i2 62 rfl rfl, nh_X7.1, nh_X7.2.1, by decide +kernel, nh_X7.2.2⟩
theorem mx_X7_thePass : Cond.instanceMethod yX7_thePass ∈ lw_ok ∧ Cond.selects yX7_thePass.cls yX7_thePass yX7_thePass ∈ lw_ok := ⟨lw_i2 60 rfl rfl, lw_i2 61 rfl rfl⟩
theorem my_X7_fault : MY yX7_fault cX7_fault 1 (some .int) 0 := ⟨lw_i2 160 rfl rfl, nh_X7.1, nh_X7.2.1, by decide +kernel, nh_X7.2.2⟩
theorem mx_X7_fault : Cond.instanceMethod yX7_fault ∈ lw_ok ∧ Cond.selects yX7_fault.cls yX7_fault yX7_fault ∈ lw_ok := ⟨lw_i2 158 rfl rfl, lw_i2 159 rfl rfl⟩
theorem my_X7_told : MY yX7_told cX7_told 2 (some .int) 1 := ⟨lw_i2 164 rfl rfl, nh_X7.1, nh_X7.2.1, by decide +kernel, nh_X7.2.2⟩
theorem mx_X7_told : Cond.instanceMethod yX7_told ∈ lw_ok ∧ Cond.selects yX7_told.cls yX7_told yX7_told ∈ lw_ok := ⟨lw_i2 162 rfl rfl, lw_i2 163 rfl rfl⟩
theorem my_X7_size : MY yX7_size cX7_size 2 (some .int) 1 := ⟨lw_i2 200 rfl rfl, nh_X7.1, nh_X7.2.1, by decide +kernel, nh_X7.2.2⟩
theorem mx_X7_size : Cond.instanceMethod yX7_size ∈ lw_ok ∧ Cond.selects yX7_size.cls yX7_size yX7_size ∈ lw_ok := ⟨lw_i2 198 rfl rfl, lw_i2 199 rfl rfl⟩
theorem my_X7_traveller : MY yX7_traveller cX7_traveller 3 (some .int) 2 := ⟨lw_i2 209 rfl rfl, nh_X7.1, nh_X7.2.1, by decide +kernel, nh_X7.2.2⟩
theorem mx_X7_traveller : Cond.instanceMethod yX7_traveller ∈ lw_ok ∧ Cond.selects yX7_traveller.cls yX7_traveller yX7_traveller ∈ lw_ok := ⟨lw_i2 207 rfl rfl, lw_i2 208 rfl rfl⟩
theorem my_X7_pass : MY yX7_pass cX7_pass 2 (some .int) 1 := ⟨lw_i2 224 rfl rfl, nh_X7.1, nh_X7.2.1, by decide +kernel, nh_X7.2.2⟩
theorem mx_X7_pass : Cond.instanceMethod yX7_pass ∈ lw_ok ∧ Cond.selects yX7_pass.cls yX7_pass yX7_pass ∈ lw_ok := ⟨lw_i2 222 rfl rfl, lw_i2 223 rfl rfl⟩
theorem my_X7_goRound : MY yX7_goRound cX7_goRound 4 (some .int) 2 := ⟨lw_i3 9 rfl rfl, nh_X7.1, nh_X7.2.1, by decide +kernel, nh_X7.2.2⟩
theorem mx_X7_goRound : Cond.instanceMethod yX7_goRound ∈ lw_ok ∧ Cond.selects yX7_goRound.cls yX7_goRound yX7_goRound ∈ lw_ok := ⟨lw_i3 7 rfl rfl, lw_i3 8 rfl rfl⟩
theorem my_X7_talk : MY yX7_talk cX7_talk 5 (some .int) 3 := ⟨lw_i3 13 rfl rfl, nh_X7.1, nh_X7.2.1, by decide +kernel, nh_X7.2.2⟩
theorem mx_X7_talk : Cond.instanceMethod yX7_talk ∈ lw_ok ∧ Cond.selects yX7_talk.cls yX7_talk yX7_talk ∈ lw_ok := ⟨lw_i3 11 rfl rfl, lw_i3 12 rfl rfl⟩
theorem my_X7_come : MY yX7_come cX7_come 3 (some .int) 2 := ⟨lw_i3 28 rfl rfl, nh_X7.1, nh_X7.2.1, by decide +kernel, nh_X7.2.2⟩
theorem mx_X7_come : Cond.instanceMethod yX7_come ∈ lw_ok ∧ Cond.selects yX7_come.cls yX7_come yX7_come ∈ lw_ok := ⟨lw_i3 26 rfl rfl, lw_i3 27 rfl rfl⟩
theorem my_X7_register : MY yX7_register cX7_register 4 (some .int) 2 := ⟨lw_i3 38 rfl rfl, nh_X7.1, nh_X7.2.1, by decide +kernel, nh_X7.2.2⟩
theorem mx_X7_register : Cond.instanceMethod yX7_register ∈ lw_ok ∧ Cond.selects yX7_register.cls yX7_register yX7_register ∈ lw_ok := ⟨lw_i3 36 rfl rfl, lw_i3 37 rfl rfl⟩
theorem my_X7_drift : MY yX7_drift cX7_drift 3 (some .int) 1 := ⟨lw_i3 42 rfl rfl, nh_X7.1, nh_X7.2.1, by decide +kernel, nh_X7.2.2⟩
theorem mx_X7_drift : Cond.instanceMethod yX7_drift ∈ lw_ok ∧ Cond.selects yX7_drift.cls yX7_drift yX7_drift ∈ lw_ok := ⟨lw_i3 40 rfl rfl, lw_i3 41 rfl rfl⟩
theorem my_X7_undo : MY yX7_undo cX7_undo 1 (some .int) 0 := ⟨lw_i3 58 rfl rfl, nh_X7.1, nh_X7.2.1, by decide +kernel, nh_X7.2.2⟩
theorem mx_X7_undo : Cond.instanceMethod yX7_undo ∈ lw_ok ∧ Cond.selects yX7_undo.cls yX7_undo yX7_undo ∈ lw_ok := ⟨lw_i3 56 rfl rfl, lw_i3 57 rfl rfl⟩
theorem my_X7_follows : MY yX7_follows cX7_follows 2 (some .int) 1 := ⟨lw_i3 66 rfl rfl, nh_X7.1, nh_X7.2.1, by decide +kernel, nh_X7.2.2⟩
theorem mx_X7_follows : Cond.instanceMethod yX7_follows ∈ lw_ok ∧ Cond.selects yX7_follows.cls yX7_follows yX7_follows ∈ lw_ok := ⟨lw_i3 64 rfl rfl, lw_i3 65 rfl rfl⟩
theorem my_X7_owed : MY yX7_owed cX7_owed 2 (some .int) 1 := ⟨lw_i3 70 rfl rfl, nh_X7.1, nh_X7.2.1, by decide +kernel, nh_X7.2.2⟩
theorem mx_X7_owed : Cond.instanceMethod yX7_owed ∈ lw_ok ∧ Cond.selects yX7_owed.cls yX7_owed yX7_owed ∈ lw_ok := ⟨lw_i3 68 rfl rfl, lw_i3 69 rfl rfl⟩
theorem my_X7_parts : MY yX7_parts cX7_parts 4 (some .int) 2 := ⟨lw_i3 74 rfl rfl, nh_X7.1, nh_X7.2.1, by decide +kernel, nh_X7.2.2⟩
theorem mx_X7_parts : Cond.instanceMethod yX7_parts ∈ lw_ok ∧ Cond.selects yX7_parts.cls yX7_parts yX7_parts ∈ lw_ok := ⟨lw_i3 72 rfl rfl, lw_i3 73 rfl rfl⟩
theorem my_X7_talkDown : MY yX7_talkDown cX7_talkDown 4 (some .int) 3 := ⟨lw_i3 82 rfl rfl, nh_X7.1, nh_X7.2.1, by decide +kernel, nh_X7.2.2⟩
theorem mx_X7_talkDown : Cond.instanceMethod yX7_talkDown ∈ lw_ok ∧ Cond.selects yX7_talkDown.cls yX7_talkDown yX7_talkDown ∈ lw_ok := ⟨lw_i3 80 rfl rfl, lw_i3 81 rfl rfl⟩
theorem my_X7_soonest : MY yX7_soonest cX7_soonest 2 (some .int) 1 := ⟨lw_i3 94 rfl rfl, nh_X7.1, nh_X7.2.1, by decide +kernel, nh_X7.2.2⟩
theorem mx_X7_soonest : Cond.instanceMethod yX7_soonest ∈ lw_ok ∧ Cond.selects yX7_soonest.cls yX7_soonest yX7_soonest ∈ lw_ok := ⟨lw_i3 92 rfl rfl, lw_i3 93 rfl rfl⟩
theorem my_X7_smallest : MY yX7_smallest cX7_smallest 2 (some .int) 1 := ⟨lw_i3 101 rfl rfl, nh_X7.1, nh_X7.2.1, by decide +kernel, nh_X7.2.2⟩
theorem mx_X7_smallest : Cond.instanceMethod yX7_smallest ∈ lw_ok ∧ Cond.selects yX7_smallest.cls yX7_smallest yX7_smallest ∈ lw_ok := ⟨lw_i3 99 rfl rfl, lw_i3 100 rfl rfl⟩
theorem my_X7_better : MY yX7_better cX7_better 3 (some .int) 2 := ⟨lw_i3 119 rfl rfl, nh_X7.1, nh_X7.2.1, by decide +kernel, nh_X7.2.2⟩
theorem mx_X7_better : Cond.instanceMethod yX7_better ∈ lw_ok ∧ Cond.selects yX7_better.cls yX7_better yX7_better ∈ lw_ok := ⟨lw_i3 117 rfl rfl, lw_i3 118 rfl rfl⟩
theorem my_X7_gains : MY yX7_gains cX7_gains 4 (some .int) 2 := ⟨lw_i3 123 rfl rfl, nh_X7.1, nh_X7.2.1, by decide +kernel, nh_X7.2.2⟩
theorem mx_X7_gains : Cond.instanceMethod yX7_gains ∈ lw_ok ∧ Cond.selects yX7_gains.cls yX7_gains yX7_gains ∈ lw_ok := ⟨lw_i3 121 rfl rfl, lw_i3 122 rfl rfl⟩
theorem my_X7_free : MY yX7_free cX7_free 1 (some .int) 0 := ⟨lw_i3 127 rfl rfl, nh_X7.1, nh_X7.2.1, by decide +kernel, nh_X7.2.2⟩
theorem mx_X7_free : Cond.instanceMethod yX7_free ∈ lw_ok ∧ Cond.selects yX7_free.cls yX7_free yX7_free ∈ lw_ok := ⟨lw_i3 125 rfl rfl, lw_i3 126 rfl rfl⟩
theorem my_X7_share : MY yX7_share cX7_share 4 (some .int) 1 := ⟨lw_i3 131 rfl rfl, nh_X7.1, nh_X7.2.1, by decide +kernel, nh_X7.2.2⟩
theorem mx_X7_share : Cond.instanceMethod yX7_share ∈ lw_ok ∧ Cond.selects yX7_share.cls yX7_share yX7_share ∈ lw_ok := ⟨lw_i3 129 rfl rfl, lw_i3 130 rfl rfl⟩
theorem my_X7_glacier : MY yX7_glacier cX7_glacier 5 (some .int) 1 := ⟨lw_i3 135 rfl rfl, nh_X7.1, nh_X7.2.1, by decide +kernel, nh_X7.2.2⟩
theorem mx_X7_glacier : Cond.instanceMethod yX7_glacier ∈ lw_ok ∧ Cond.selects yX7_glacier.cls yX7_glacier yX7_glacier ∈ lw_ok := ⟨lw_i3 133 rfl rfl, lw_i3 134 rfl rfl⟩
theorem my_X7_ask : MY yX7_ask cX7_ask 4 (some .int) 3 := ⟨lw_i3 141 rfl rfl, nh_X7.1, nh_X7.2.1, by decide +kernel, nh_X7.2.2⟩
theorem mx_X7_ask : Cond.instanceMethod yX7_ask ∈ lw_ok ∧ Cond.selects yX7_ask.cls yX7_ask yX7_ask ∈ lw_ok := ⟨lw_i3 139 rfl rfl, lw_i3 140 rfl rfl⟩
theorem my_X7_minds : MY yX7_minds cX7_minds 2 (some .int) 1 := ⟨lw_i3 149 rfl rfl, nh_X7.1, nh_X7.2.1, by decide +kernel, nh_X7.2.2⟩
theorem mx_X7_minds : Cond.instanceMethod yX7_minds ∈ lw_ok ∧ Cond.selects yX7_minds.cls yX7_minds yX7_minds ∈ lw_ok := ⟨lw_i3 147 rfl rfl, lw_i3 148 rfl rfl⟩
theorem my_X7_askNext : MY yX7_askNext cX7_askNext 1 (some .int) 0 := ⟨lw_i3 169 rfl rfl, nh_X7.1, nh_X7.2.1, by decide +kernel, nh_X7.2.2⟩
theorem mx_X7_askNext : Cond.instanceMethod yX7_askNext ∈ lw_ok ∧ Cond.selects yX7_askNext.cls yX7_askNext yX7_askNext ∈ lw_ok := ⟨lw_i3 167 rfl rfl, lw_i3 168 rfl rfl⟩
theorem my_X7_write : MY yX7_write cX7_write 3 (some .int) 2 := ⟨lw_i3 180 rfl rfl, nh_X7.1, nh_X7.2.1, by decide +kernel, nh_X7.2.2⟩
theorem mx_X7_write : Cond.instanceMethod yX7_write ∈ lw_ok ∧ Cond.selects yX7_write.cls yX7_write yX7_write ∈ lw_ok := ⟨lw_i3 178 rfl rfl, lw_i3 179 rfl rfl⟩
theorem my_X7_tear : MY yX7_tear cX7_tear 2 (some .int) 0 := ⟨lw_i3 188 rfl rfl, nh_X7.1, nh_X7.2.1, by decide +kernel, nh_X7.2.2⟩
theorem mx_X7_tear : Cond.instanceMethod yX7_tear ∈ lw_ok ∧ Cond.selects yX7_tear.cls yX7_tear yX7_tear ∈ lw_ok := ⟨lw_i3 186 rfl rfl, lw_i3 187 rfl rfl⟩
theorem my_X7_judge : MY yX7_judge cX7_judge 1 (some .int) 0 := ⟨lw_i3 192 rfl rfl, nh_X7.1, nh_X7.2.1, by decide +kernel, nh_X7.2.2⟩
theorem mx_X7_judge : Cond.instanceMethod yX7_judge ∈ lw_ok ∧ Cond.selects yX7_judge.cls yX7_judge yX7_judge ∈ lw_ok := ⟨lw_i3 190 rfl rfl, lw_i3 191 rfl rfl⟩
theorem my_X7_seed : MY yX7_seed cX7_seed 3 (some .int) 1 := ⟨lw_i3 200 rfl rfl, nh_X7.1, nh_X7.2.1, by decide +kernel, nh_X7.2.2⟩
theorem mx_X7_seed : Cond.instanceMethod yX7_seed ∈ lw_ok ∧ Cond.selects yX7_seed.cls yX7_seed yX7_seed ∈ lw_ok := ⟨lw_i3 198 rfl rfl, lw_i3 199 rfl rfl⟩
theorem my_X7_keep : MY yX7_keep cX7_keep 2 (some .int) 1 := ⟨lw_i3 204 rfl rfl, nh_X7.1, nh_X7.2.1, by decide +kernel, nh_X7.2.2⟩
theorem mx_X7_keep : Cond.instanceMethod yX7_keep ∈ lw_ok ∧ Cond.selects yX7_keep.cls yX7_keep yX7_keep ∈ lw_ok := ⟨lw_i3 202 rfl rfl, lw_i3 203 rfl rfl⟩
theorem my_X7_goBack : MY yX7_goBack cX7_goBack 2 (some .int) 1 := ⟨lw_i3 213 rfl rfl, nh_X7.1, nh_X7.2.1, by decide +kernel, nh_X7.2.2⟩
theorem mx_X7_goBack : Cond.instanceMethod yX7_goBack ∈ lw_ok ∧ Cond.selects yX7_goBack.cls yX7_goBack yX7_goBack ∈ lw_ok := ⟨lw_i3 211 rfl rfl, lw_i3 212 rfl rfl⟩
theorem my_X7_inTheCountry : MY yX7_inTheCountry cX7_inTheCountry 1 (some .int) 0 := ⟨lw_i2 168 rfl rfl, nh_X7.1, nh_X7.2.1, by decide +kernel, nh_X7.2.2⟩
theorem mx_X7_inTheCountry : Cond.instanceMethod yX7_inTheCountry ∈ lw_ok ∧ Cond.selects yX7_inTheCountry.cls yX7_inTheCountry yX7_inTheCountry ∈ lw_ok := ⟨lw_i2 167 rfl rfl, lw_s 15 rfl rfl⟩
theorem my_X7_dutyOf : MY yX7_dutyOf cX7_dutyOf 2 (some .int) 1 := ⟨lw_i2 215 rfl rfl, nh_X7.1, nh_X7.2.1, by decide +kernel, nh_X7.2.2⟩
theorem mx_X7_dutyOf : Cond.instanceMethod yX7_dutyOf ∈ lw_ok ∧ Cond.selects yX7_dutyOf.cls yX7_dutyOf yX7_dutyOf ∈ lw_ok := ⟨lw_i2 214 rfl rfl, lw_s 17 rfl rfl⟩
theorem my_X7_stuckOnes : MY yX7_stuckOnes cX7_stuckOnes 3 (some .int) 0 := ⟨lw_i2 180 rfl rfl, nh_X7.1, nh_X7.2.1, by decide +kernel, nh_X7.2.2⟩
theorem mx_X7_stuckOnes : Cond.instanceMethod yX7_stuckOnes ∈ lw_ok ∧ Cond.selects yX7_stuckOnes.cls yX7_stuckOnes yX7_stuckOnes ∈ lw_ok := ⟨lw_i2 179 rfl rfl, lw_s 16 rfl rfl⟩
theorem my_X7_letPass : MY yX7_letPass cX7_letPass 3 (some .int) 1 := ⟨lw_i2 238 rfl rfl, nh_X7.1, nh_X7.2.1, by decide +kernel, nh_X7.2.2⟩
theorem mx_X7_letPass : Cond.instanceMethod yX7_letPass ∈ lw_ok ∧ Cond.selects yX7_letPass.cls yX7_letPass yX7_letPass ∈ lw_ok := ⟨lw_i2 237 rfl rfl, lw_s 18 rfl rfl⟩
theorem my_X7_driftOneDay : MY yX7_driftOneDay cX7_driftOneDay 3 none 0 := ⟨lw_i3 46 rfl rfl, nh_X7.1, nh_X7.2.1, by decide +kernel, nh_X7.2.2⟩
theorem mx_X7_driftOneDay : Cond.instanceMethod yX7_driftOneDay ∈ lw_ok ∧ Cond.selects yX7_driftOneDay.cls yX7_driftOneDay yX7_driftOneDay ∈ lw_ok := ⟨lw_i3 45 rfl rfl, lw_s 19 rfl rfl⟩
theorem my_X7_draw : MY yX7_draw cX7_draw 2 (some .int) 1 := ⟨lw_i3 50 rfl rfl, nh_X7.1, nh_X7.2.1, by decide +kernel, nh_X7.2.2⟩
theorem mx_X7_draw : Cond.instanceMethod yX7_draw ∈ lw_ok ∧ Cond.selects yX7_draw.cls yX7_draw yX7_draw ∈ lw_ok := ⟨lw_i3 49 rfl rfl, lw_s 20 rfl rfl⟩
theorem my_X7_cheapestParts : MY yX7_cheapestParts cX7_cheapestParts 6 (some .int) 1 := ⟨lw_i3 78 rfl rfl, nh_X7.1, nh_X7.2.1, by decide +kernel, nh_X7.2.2⟩
theorem mx_X7_cheapestParts : Cond.instanceMethod yX7_cheapestParts ∈ lw_ok ∧ Cond.selects yX7_cheapestParts.cls yX7_cheapestParts yX7_cheapestParts ∈ lw_ok := ⟨lw_i3 77 rfl rfl, lw_s 21 rfl rfl⟩
theorem my_X7_nextOnTheWay : MY yX7_nextOnTheWay cX7_nextOnTheWay 6 (some .int) 1 := ⟨lw_i3 90 rfl rfl, nh_X7.1, nh_X7.2.1, by decide +kernel, nh_X7.2.2⟩
theorem mx_X7_nextOnTheWay : Cond.instanceMethod yX7_nextOnTheWay ∈ lw_ok ∧ Cond.selects yX7_nextOnTheWay.cls yX7_nextOnTheWay yX7_nextOnTheWay ∈ lw_ok := ⟨lw_i3 89 rfl rfl, lw_s 22 rfl rfl⟩
theorem my_X7_fewestMinutes : MY yX7_fewestMinutes cX7_fewestMinutes 8 (some .int) 3 := ⟨lw_i3 97 rfl rfl, nh_X7.1, nh_X7.2.1, by decide +kernel, nh_X7.2.2⟩
theorem mx_X7_fewestMinutes : Cond.static yX7_fewestMinutes ∈ lw_ok := lw_i3 96 rfl rfl
theorem my_X7_afterTalk : MY yX7_afterTalk cX7_afterTalk 3 (some .int) 3 := ⟨lw_i3 20 rfl rfl, nh_X7.1, nh_X7.2.1, by decide +kernel, nh_X7.2.2⟩
theorem mx_X7_afterTalk : Cond.static yX7_afterTalk ∈ lw_ok := lw_i3 19 rfl rfl
theorem my_X7_smallestRegister : MY yX7_smallestRegister cX7_smallestRegister 5 (some .int) 0 := ⟨lw_i3 105 rfl rfl, nh_X7.1, nh_X7.2.1, by decide +kernel, nh_X7.2.2⟩
theorem mx_X7_smallestRegister : Cond.instanceMethod yX7_smallestRegister ∈ lw_ok ∧ Cond.selects yX7_smallestRegister.cls yX7_smallestRegister yX7_smallestRegister ∈ lw_ok := ⟨lw_i3 104 rfl rfl, lw_s 23 rfl rfl⟩
theorem my_X7_needless : MY yX7_needless cX7_needless 5 (some .int) 0 := ⟨lw_i3 115 rfl rfl, nh_X7.1, nh_X7.2.1, by decide +kernel, nh_X7.2.2⟩
theorem mx_X7_needless : Cond.instanceMethod yX7_needless ∈ lw_ok ∧ Cond.selects yX7_needless.cls yX7_needless yX7_needless ∈ lw_ok := ⟨lw_i3 114 rfl rfl, lw_s 24 rfl rfl⟩
theorem my_X8_init : MY yX8_init cX8_init 1 none 0 := ⟨lw_i3 219 rfl rfl, nh_X8.1, nh_X8.2.1, by decide +kernel, nh_X8.2.2⟩
theorem my_X8_in : MY yX8_in cX8_in 6 (some .boolean) 3 := ⟨lw_i4 133 rfl rfl, nh_X8.1, nh_X8.2.1, by decide +kernel, nh_X8.2.2⟩
theorem mx_X8_in : Cond.static yX8_in ∈ lw_ok := lw_i4 132 rfl rfl
theorem my_X8_has : MY yX8_has cX8_has 2 (some .boolean) 2 := ⟨lw_i4 196 rfl rfl, nh_X8.1, nh_X8.2.1, by decide +kernel, nh_X8.2.2⟩
theorem mx_X8_has : Cond.static yX8_has ∈ lw_ok := lw_i4 195 rfl rfl
theorem my_X8_bits : MY yX8_bits cX8_bits 3 (some .int) 1 := ⟨lw_i5 126 rfl rfl, nh_X8.1, nh_X8.2.1, by decide +kernel, nh_X8.2.2⟩
theorem mx_X8_bits : Cond.static yX8_bits ∈ lw_ok := lw_i5 125 rfl rfl
theorem my_X8_atMost : MY yX8_atMost cX8_atMost 1 (some .int) 1 := ⟨lw_i5 33 rfl rfl, nh_X8.1, nh_X8.2.1, by decide +kernel, nh_X8.2.2⟩
theorem mx_X8_atMost : Cond.static yX8_atMost ∈ lw_ok := lw_i5 32 rfl rfl
theorem my_X8_isIdea : MY yX8_isIdea cX8_isIdea 2 (some .boolean) 1 := ⟨lw_i5 0 rfl rfl, nh_X8.1, nh_X8.2.1, by decide +kernel, nh_X8.2.2⟩
theorem mx_X8_isIdea : Cond.instanceMethod yX8_isIdea ∈ lw_ok ∧ Cond.selects yX8_isIdea.cls yX8_isIdea yX8_isIdea ∈ lw_ok := ⟨lw_i4 239 rfl rfl, lw_s 47 rfl rfl⟩
theorem my_X8_isSet : MY yX8_isSet cX8_isSet 2 (some .boolean) 1 := ⟨lw_i5 62 rfl rfl, nh_X8.1, nh_X8.2.1, by decide +kernel, nh_X8.2.2⟩
theorem mx_X8_isSet : Cond.instanceMethod yX8_isSet ∈ lw_ok ∧ Cond.selects yX8_isSet.cls yX8_isSet yX8_isSet ∈ lw_ok := ⟨lw_i5 61 rfl rfl, lw_s 55 rfl rfl⟩
theorem my_X8_isTraveller : MY yX8_isTraveller cX8_isTraveller 2 (some .boolean) 1 := ⟨lw_i5 9 rfl rfl, nh_X8.1, nh_X8.2.1, by decide +kernel, nh_X8.2.2⟩
theorem mx_X8_isTraveller : Cond.instanceMethod yX8_isTraveller ∈ lw_ok ∧ Cond.selects yX8_isTraveller.cls yX8_isTraveller yX8_isTraveller ∈ lw_ok := ⟨lw_i5 8 rfl rfl, lw_s 48 rfl rfl⟩
theorem my_X8_feed : MY yX8_feed cX8_feed 2 (some .int) 1 := ⟨lw_i4 129 rfl rfl, nh_X8.1, nh_X8.2.1, by decide +kernel, nh_X8.2.2⟩
theorem mx_X8_feed : Cond.instanceMethod yX8_feed ∈ lw_ok ∧ Cond.selects yX8_feed.cls yX8_feed yX8_feed ∈ lw_ok := ⟨lw_i4 127 rfl rfl, lw_i4 128 rfl rfl⟩
theorem my_X8_here : MY yX8_here cX8_here 1 (some .int) 0 := ⟨lw_i4 143 rfl rfl, nh_X8.1, nh_X8.2.1, by decide +kernel, nh_X8.2.2⟩
theorem mx_X8_here : Cond.instanceMethod yX8_here ∈ lw_ok ∧ Cond.selects yX8_here.cls yX8_here yX8_here ∈ lw_ok := ⟨lw_i4 142 rfl rfl, lw_s 27 rfl rfl⟩
theorem my_X8_fails : MY yX8_fails cX8_fails 3 (some .int) 2 := ⟨lw_i4 155 rfl rfl, nh_X8.1, nh_X8.2.1, by decide +kernel, nh_X8.2.2⟩
theorem mx_X8_fails : Cond.instanceMethod yX8_fails ∈ lw_ok ∧ Cond.selects yX8_fails.cls yX8_fails yX8_fails ∈ lw_ok := ⟨lw_i4 154 rfl rfl, lw_s 30 rfl rfl⟩
theorem my_X8_takeNumber : MY yX8_takeNumber cX8_takeNumber 4 (some .int) 2 := ⟨lw_i4 175 rfl rfl, nh_X8.1, nh_X8.2.1, by decide +kernel, nh_X8.2.2⟩
theorem mx_X8_takeNumber : Cond.instanceMethod yX8_takeNumber ∈ lw_ok ∧ Cond.selects yX8_takeNumber.cls yX8_takeNumber yX8_takeNumber ∈ lw_ok := ⟨lw_i4 174 rfl rfl, lw_s 35 rfl rfl⟩
theorem my_X8_into : MY yX8_into cX8_into 6 (some .int) 4 := ⟨lw_i4 171 rfl rfl, nh_X8.1, nh_X8.2.1, by decide +kernel, nh_X8.2.2⟩
theorem mx_X8_into : Cond.instanceMethod yX8_into ∈ lw_ok ∧ Cond.selects yX8_into.cls yX8_into yX8_into ∈ lw_ok := ⟨lw_i4 170 rfl rfl, lw_s 34 rfl rfl⟩
theorem my_X8_takeGate : MY yX8_takeGate cX8_takeGate 2 (some .int) 0 := ⟨lw_i4 167 rfl rfl, nh_X8.1, nh_X8.2.1, by decide +kernel, nh_X8.2.2⟩
theorem mx_X8_takeGate : Cond.instanceMethod yX8_takeGate ∈ lw_ok ∧ Cond.selects yX8_takeGate.cls yX8_takeGate yX8_takeGate ∈ lw_ok := ⟨lw_i4 166 rfl rfl, lw_s 33 rfl rfl⟩
theorem my_X8_takeIdea : MY yX8_takeIdea cX8_takeIdea 2 (some .int) 0 := ⟨lw_i4 181 rfl rfl, nh_X8.1, nh_X8.2.1, by decide +kernel, nh_X8.2.2⟩
theorem mx_X8_takeIdea : Cond.instanceMethod yX8_takeIdea ∈ lw_ok ∧ Cond.selects yX8_takeIdea.cls yX8_takeIdea yX8_takeIdea ∈ lw_ok := ⟨lw_i4 180 rfl rfl, lw_s 36 rfl rfl⟩
theorem my_X8_takeJoin : MY yX8_takeJoin cX8_takeJoin 3 (some .int) 0 := ⟨lw_i4 185 rfl rfl, nh_X8.1, nh_X8.2.1, by decide +kernel, nh_X8.2.2⟩
theorem mx_X8_takeJoin : Cond.instanceMethod yX8_takeJoin ∈ lw_ok ∧ Cond.selects yX8_takeJoin.cls yX8_takeJoin yX8_takeJoin ∈ lw_ok := ⟨lw_i4 184 rfl rfl, lw_s 37 rfl rfl⟩
theorem my_X8_takeTalk : MY yX8_takeTalk cX8_takeTalk 3 (some .int) 0 := ⟨lw_i4 189 rfl rfl, nh_X8.1, nh_X8.2.1, by decide +kernel, nh_X8.2.2⟩
theorem mx_X8_takeTalk : Cond.instanceMethod yX8_takeTalk ∈ lw_ok ∧ Cond.selects yX8_takeTalk.cls yX8_takeTalk yX8_takeTalk ∈ lw_ok := ⟨lw_i4 188 rfl rfl, lw_s 38 rfl rfl⟩
theorem my_X8_takeRegistered : MY yX8_takeRegistered cX8_takeRegistered 2 (some .int) 0 := ⟨lw_i4 193 rfl rfl, nh_X8.1, nh_X8.2.1, by decide +kernel, nh_X8.2.2⟩
theorem mx_X8_takeRegistered : Cond.instanceMethod yX8_takeRegistered ∈ lw_ok ∧ Cond.selects yX8_takeRegistered.cls yX8_takeRegistered yX8_takeRegistered ∈ lw_ok := ⟨lw_i4 192 rfl rfl, lw_s 39 rfl rfl⟩
theorem my_X8_takeTraveller : MY yX8_takeTraveller cX8_takeTraveller 2 (some .int) 0 := ⟨lw_i4 200 rfl rfl, nh_X8.1, nh_X8.2.1, by decide +kernel, nh_X8.2.2⟩
theorem mx_X8_takeTraveller : Cond.instanceMethod yX8_takeTraveller ∈ lw_ok ∧ Cond.selects yX8_takeTraveller.cls yX8_takeTraveller yX8_takeTraveller ∈ lw_ok := ⟨lw_i4 199 rfl rfl, lw_s 40 rfl rfl⟩
theorem my_X8_whichClause : MY yX8_whichClause cX8_whichClause 2 (some .int) 1 := ⟨lw_i4 151 rfl rfl, nh_X8.1, nh_X8.2.1, by decide +kernel, nh_X8.2.2⟩
theorem mx_X8_whichClause : Cond.instanceMethod yX8_whichClause ∈ lw_ok ∧ Cond.selects yX8_whichClause.cls yX8_whichClause yX8_whichClause ∈ lw_ok := ⟨lw_i4 150 rfl rfl, lw_s 29 rfl rfl⟩
theorem my_X8_isFull : MY yX8_isFull cX8_isFull 2 (some .boolean) 1 := ⟨lw_i4 159 rfl rfl, nh_X8.1, nh_X8.2.1, by decide +kernel, nh_X8.2.2⟩
theorem mx_X8_isFull : Cond.instanceMethod yX8_isFull ∈ lw_ok ∧ Cond.selects yX8_isFull.cls yX8_isFull yX8_isFull ∈ lw_ok := ⟨lw_i4 158 rfl rfl, lw_s 31 rfl rfl⟩
theorem my_X8_takeBody : MY yX8_takeBody cX8_takeBody 2 (some .int) 1 := ⟨lw_i4 163 rfl rfl, nh_X8.1, nh_X8.2.1, by decide +kernel, nh_X8.2.2⟩
theorem mx_X8_takeBody : Cond.instanceMethod yX8_takeBody ∈ lw_ok ∧ Cond.selects yX8_takeBody.cls yX8_takeBody yX8_takeBody ∈ lw_ok := ⟨lw_i4 162 rfl rfl, lw_s 32 rfl rfl⟩
theorem my_X8_takeClause : MY yX8_takeClause cX8_takeClause 3 (some .int) 0 := ⟨lw_i4 147 rfl rfl, nh_X8.1, nh_X8.2.1, by decide +kernel, nh_X8.2.2⟩
theorem mx_X8_takeClause : Cond.instanceMethod yX8_takeClause ∈ lw_ok ∧ Cond.selects yX8_takeClause.cls yX8_takeClause yX8_takeClause ∈ lw_ok := ⟨lw_i4 146 rfl rfl, lw_s 28 rfl rfl⟩
theorem my_X8_takeRead : MY yX8_takeRead cX8_takeRead 2 none 0 := ⟨lw_i4 204 rfl rfl, nh_X8.1, nh_X8.2.1, by decide +kernel, nh_X8.2.2⟩
theorem mx_X8_takeRead : Cond.instanceMethod yX8_takeRead ∈ lw_ok ∧ Cond.selects yX8_takeRead.cls yX8_takeRead yX8_takeRead ∈ lw_ok := ⟨lw_i4 203 rfl rfl, lw_s 41 rfl rfl⟩
theorem my_X8_thePass : MY yX8_thePass cX8_thePass 2 (some .int) 0 := ⟨lw_i4 139 rfl rfl, nh_X8.1, nh_X8.2.1, by decide +kernel, nh_X8.2.2⟩
theorem mx_X8_thePass : Cond.instanceMethod yX8_thePass ∈ lw_ok ∧ Cond.selects yX8_thePass.cls yX8_thePass yX8_thePass ∈ lw_ok := ⟨lw_i4 137 rfl rfl, lw_i4 138 rfl rfl⟩
theorem my_X8_fault : MY yX8_fault cX8_fault 1 (some .int) 0 := ⟨lw_i4 208 rfl rfl, nh_X8.1, nh_X8.2.1, by decide +kernel, nh_X8.2.2⟩
theorem mx_X8_fault : Cond.instanceMethod yX8_fault ∈ lw_ok ∧ Cond.selects yX8_fault.cls yX8_fault yX8_fault ∈ lw_ok := ⟨lw_i4 206 rfl rfl, lw_i4 207 rfl rfl⟩
theorem my_X8_close : MY yX8_close cX8_close 5 (some .int) 1 := ⟨lw_i4 216 rfl rfl, nh_X8.1, nh_X8.2.1, by decide +kernel, nh_X8.2.2⟩
theorem mx_X8_close : Cond.instanceMethod yX8_close ∈ lw_ok ∧ Cond.selects yX8_close.cls yX8_close yX8_close ∈ lw_ok := ⟨lw_i4 215 rfl rfl, lw_s 42 rfl rfl⟩
theorem my_X8_sizeOf : MY yX8_sizeOf cX8_sizeOf 4 (some .int) 1 := ⟨lw_i4 232 rfl rfl, nh_X8.1, nh_X8.2.1, by decide +kernel, nh_X8.2.2⟩
theorem mx_X8_sizeOf : Cond.instanceMethod yX8_sizeOf ∈ lw_ok ∧ Cond.selects yX8_sizeOf.cls yX8_sizeOf yX8_sizeOf ∈ lw_ok := ⟨lw_i4 231 rfl rfl, lw_s 46 rfl rfl⟩
theorem my_X8_owedWhere : MY yX8_owedWhere cX8_owedWhere 5 (some .int) 2 := ⟨lw_i5 17 rfl rfl, nh_X8.1, nh_X8.2.1, by decide +kernel, nh_X8.2.2⟩
theorem mx_X8_owedWhere : Cond.instanceMethod yX8_owedWhere ∈ lw_ok ∧ Cond.selects yX8_owedWhere.cls yX8_owedWhere yX8_owedWhere ∈ lw_ok := ⟨lw_i5 16 rfl rfl, lw_s 50 rfl rfl⟩
theorem my_X8_owedFor : MY yX8_owedFor cX8_owedFor 2 (some .int) 1 := ⟨lw_i5 13 rfl rfl, nh_X8.1, nh_X8.2.1, by decide +kernel, nh_X8.2.2⟩
theorem mx_X8_owedFor : Cond.instanceMethod yX8_owedFor ∈ lw_ok ∧ Cond.selects yX8_owedFor.cls yX8_owedFor yX8_owedFor ∈ lw_ok := ⟨lw_i5 12 rfl rfl, lw_s 49 rfl rfl⟩
theorem my_X8_isGone : MY yX8_isGone cX8_isGone 2 (some .boolean) 1 := ⟨lw_i4 224 rfl rfl, nh_X8.1, nh_X8.2.1, by decide +kernel, nh_X8.2.2⟩
theorem mx_X8_isGone : Cond.instanceMethod yX8_isGone ∈ lw_ok ∧ Cond.selects yX8_isGone.cls yX8_isGone yX8_isGone ∈ lw_ok := ⟨lw_i4 223 rfl rfl, lw_s 44 rfl rfl⟩
theorem my_X8_isStuck : MY yX8_isStuck cX8_isStuck 2 (some .boolean) 1 := ⟨lw_i4 228 rfl rfl, nh_X8.1, nh_X8.2.1, by decide +kernel, nh_X8.2.2⟩
theorem mx_X8_isStuck : Cond.instanceMethod yX8_isStuck ∈ lw_ok ∧ Cond.selects yX8_isStuck.cls yX8_isStuck yX8_isStuck ∈ lw_ok := ⟨lw_i4 227 rfl rfl, lw_s 45 rfl rfl⟩
theorem my_X8_stuckOnes : MY yX8_stuckOnes cX8_stuckOnes 3 (some .int) 0 := ⟨lw_i4 220 rfl rfl, nh_X8.1, nh_X8.2.1, by decide +kernel, nh_X8.2.2⟩
theorem mx_X8_stuckOnes : Cond.instanceMethod yX8_stuckOnes ∈ lw_ok ∧ Cond.selects yX8_stuckOnes.cls yX8_stuckOnes yX8_stuckOnes ∈ lw_ok := ⟨lw_i4 219 rfl rfl, lw_s 43 rfl rfl⟩
theorem my_X8_told : MY yX8_told cX8_told 2 (some .int) 1 := ⟨lw_i4 212 rfl rfl, nh_X8.1, nh_X8.2.1, by decide +kernel, nh_X8.2.2⟩
theorem mx_X8_told : Cond.instanceMethod yX8_told ∈ lw_ok ∧ Cond.selects yX8_told.cls yX8_told yX8_told ∈ lw_ok := ⟨lw_i4 210 rfl rfl, lw_i4 211 rfl rfl⟩
theorem my_X8_size : MY yX8_size cX8_size 2 (some .int) 1 := ⟨lw_i4 236 rfl rfl, nh_X8.1, nh_X8.2.1, by decide +kernel, nh_X8.2.2⟩
theorem mx_X8_size : Cond.instanceMethod yX8_size ∈ lw_ok ∧ Cond.selects yX8_size.cls yX8_size yX8_size ∈ lw_ok := ⟨lw_i4 234 rfl rfl, lw_i4 235 rfl rfl⟩
theorem my_X8_traveller : MY yX8_traveller cX8_traveller 3 (some .int) 2 := ⟨lw_i5 5 rfl rfl, nh_X8.1, nh_X8.2.1, by decide +kernel, nh_X8.2.2⟩
theorem mx_X8_traveller : Cond.instanceMethod yX8_traveller ∈ lw_ok ∧ Cond.selects yX8_traveller.cls yX8_traveller yX8_traveller ∈ lw_ok := ⟨lw_i5 3 rfl rfl, lw_i5 4 rfl rfl⟩
theorem my_X8_remember : MY yX8_remember cX8_remember 2 none 0 := ⟨lw_i5 26 rfl rfl, nh_X8.1, nh_X8.2.1, by decide +kernel, nh_X8.2.2⟩
theorem mx_X8_remember : Cond.instanceMethod yX8_remember ∈ lw_ok ∧ Cond.selects yX8_remember.cls yX8_remember yX8_remember ∈ lw_ok := ⟨lw_i5 25 rfl rfl, lw_s 51 rfl rfl⟩
theorem my_X8_passNow : MY yX8_passNow cX8_passNow 3 (some .int) 1 := ⟨lw_i5 30 rfl rfl, nh_X8.1, nh_X8.2.1, by decide +kernel, nh_X8.2.2⟩
theorem mx_X8_passNow : Cond.instanceMethod yX8_passNow ∈ lw_ok ∧ Cond.selects yX8_passNow.cls yX8_passNow yX8_passNow ∈ lw_ok := ⟨lw_i5 29 rfl rfl, lw_s 52 rfl rfl⟩
theorem my_X8_pass : MY yX8_pass cX8_pass 2 (some .int) 1 := ⟨lw_i5 21 rfl rfl, nh_X8.1, nh_X8.2.1, by decide +kernel, nh_X8.2.2⟩
theorem mx_X8_pass : Cond.instanceMethod yX8_pass ∈ lw_ok ∧ Cond.selects yX8_pass.cls yX8_pass yX8_pass ∈ lw_ok := ⟨lw_i5 19 rfl rfl, lw_i5 20 rfl rfl⟩
theorem my_X8_roundNow : MY yX8_roundNow cX8_roundNow 4 (some .int) 2 := ⟨lw_i5 42 rfl rfl, nh_X8.1, nh_X8.2.1, by decide +kernel, nh_X8.2.2⟩
theorem mx_X8_roundNow : Cond.instanceMethod yX8_roundNow ∈ lw_ok ∧ Cond.selects yX8_roundNow.cls yX8_roundNow yX8_roundNow ∈ lw_ok := ⟨lw_i5 41 rfl rfl, lw_s 53 rfl rfl⟩
theorem my_X8_goRound : MY yX8_goRound cX8_goRound 3 (some .int) 2 := ⟨lw_i5 38 rfl rfl, nh_X8.1, nh_X8.2.1, by decide +kernel, nh_X8.2.2⟩
theorem mx_X8_goRound : Cond.instanceMethod yX8_goRound ∈ lw_ok ∧ Cond.selects yX8_goRound.cls yX8_goRound yX8_goRound ∈ lw_ok := ⟨lw_i5 36 rfl rfl, lw_i5 37 rfl rfl⟩
theorem my_X8_quickest : MY yX8_quickest cX8_quickest 6 (some .int) 2 := ⟨lw_i5 50 rfl rfl, nh_X8.1, nh_X8.2.1, by decide +kernel, nh_X8.2.2⟩
theorem mx_X8_quickest : Cond.instanceMethod yX8_quickest ∈ lw_ok ∧ Cond.selects yX8_quickest.cls yX8_quickest yX8_quickest ∈ lw_ok := ⟨lw_i5 49 rfl rfl, lw_s 54 rfl rfl⟩
theorem my_X8_talked : MY yX8_talked cX8_talked 3 (some .int) 3 := ⟨lw_i5 54 rfl rfl, nh_X8.1, nh_X8.2.1, by decide +kernel, nh_X8.2.2⟩
theorem mx_X8_talked : Cond.static yX8_talked ∈ lw_ok := lw_i5 53 rfl rfl
theorem my_X8_talk : MY yX8_talk cX8_talk 5 (some .int) 3 := ⟨lw_i5 46 rfl rfl, nh_X8.1, nh_X8.2.1, by decide +kernel, nh_X8.2.2⟩
theorem mx_X8_talk : Cond.instanceMethod yX8_talk ∈ lw_ok ∧ Cond.selects yX8_talk.cls yX8_talk yX8_talk ∈ lw_ok := ⟨lw_i5 44 rfl rfl, lw_i5 45 rfl rfl⟩
theorem my_X8_come : MY yX8_come cX8_come 3 (some .int) 2 := ⟨lw_i5 58 rfl rfl, nh_X8.1, nh_X8.2.1, by decide +kernel, nh_X8.2.2⟩
theorem mx_X8_come : Cond.instanceMethod yX8_come ∈ lw_ok ∧ Cond.selects yX8_come.cls yX8_come yX8_come ∈ lw_ok := ⟨lw_i5 56 rfl rfl, lw_i5 57 rfl rfl⟩
theorem my_X8_register : MY yX8_register cX8_register 4 (some .int) 2 := ⟨lw_i5 66 rfl rfl, nh_X8.1, nh_X8.2.1, by decide +kernel, nh_X8.2.2⟩
theorem mx_X8_register : Cond.instanceMethod yX8_register ∈ lw_ok ∧ Cond.selects yX8_register.cls yX8_register yX8_register ∈ lw_ok := ⟨lw_i5 64 rfl rfl, lw_i5 65 rfl rfl⟩
theorem my_X8_draw : MY yX8_draw cX8_draw 2 (some .int) 1 := ⟨lw_i5 79 rfl rfl, nh_X8.1, nh_X8.2.1, by decide +kernel, nh_X8.2.2⟩
theorem mx_X8_draw : Cond.instanceMethod yX8_draw ∈ lw_ok ∧ Cond.selects yX8_draw.cls yX8_draw yX8_draw ∈ lw_ok := ⟨lw_i5 78 rfl rfl, lw_s 57 rfl rfl⟩
theorem my_X8_dayByDraws : MY yX8_dayByDraws cX8_dayByDraws 3 none 0 := ⟨lw_i5 75 rfl rfl, nh_X8.1, nh_X8.2.1, by decide +kernel, nh_X8.2.2⟩
theorem mx_X8_dayByDraws : Cond.instanceMethod yX8_dayByDraws ∈ lw_ok ∧ Cond.selects yX8_dayByDraws.cls yX8_dayByDraws yX8_dayByDraws ∈ lw_ok := ⟨lw_i5 74 rfl rfl, lw_s 56 rfl rfl⟩
theorem my_X8_drift : MY yX8_drift cX8_drift 3 (some .int) 1 := ⟨lw_i5 70 rfl rfl, nh_X8.1, nh_X8.2.1, by decide +kernel, nh_X8.2.2⟩
theorem mx_X8_drift : Cond.instanceMethod yX8_drift ∈ lw_ok ∧ Cond.selects yX8_drift.cls yX8_drift yX8_drift ∈ lw_ok := ⟨lw_i5 68 rfl rfl, lw_i5 69 rfl rfl⟩
theorem my_X8_undo : MY yX8_undo cX8_undo 2 (some .int) 0 := ⟨lw_i5 87 rfl rfl, nh_X8.1, nh_X8.2.1, by decide +kernel, nh_X8.2.2⟩
theorem mx_X8_undo : Cond.instanceMethod yX8_undo ∈ lw_ok ∧ Cond.selects yX8_undo.cls yX8_undo yX8_undo ∈ lw_ok := ⟨lw_i5 85 rfl rfl, lw_i5 86 rfl rfl⟩
theorem my_X8_follows : MY yX8_follows cX8_follows 2 (some .int) 1 := ⟨lw_i5 91 rfl rfl, nh_X8.1, nh_X8.2.1, by decide +kernel, nh_X8.2.2⟩
theorem mx_X8_follows : Cond.instanceMethod yX8_follows ∈ lw_ok ∧ Cond.selects yX8_follows.cls yX8_follows yX8_follows ∈ lw_ok := ⟨lw_i5 89 rfl rfl, lw_i5 90 rfl rfl⟩
theorem my_X8_owed : MY yX8_owed cX8_owed 2 (some .int) 1 := ⟨lw_i5 95 rfl rfl, nh_X8.1, nh_X8.2.1, by decide +kernel, nh_X8.2.2⟩
theorem mx_X8_owed : Cond.instanceMethod yX8_owed ∈ lw_ok ∧ Cond.selects yX8_owed.cls yX8_owed yX8_owed ∈ lw_ok := ⟨lw_i5 93 rfl rfl, lw_i5 94 rfl rfl⟩
theorem my_X8_parts : MY yX8_parts cX8_parts 6 (some .int) 2 := ⟨lw_i5 99 rfl rfl, nh_X8.1, nh_X8.2.1, by decide +kernel, nh_X8.2.2⟩
theorem mx_X8_parts : Cond.instanceMethod yX8_parts ∈ lw_ok ∧ Cond.selects yX8_parts.cls yX8_parts yX8_parts ∈ lw_ok := ⟨lw_i5 97 rfl rfl, lw_i5 98 rfl rfl⟩
theorem my_X8_findMinutes : MY yX8_findMinutes cX8_findMinutes 5 none 1 := ⟨lw_i5 107 rfl rfl, nh_X8.1, nh_X8.2.1, by decide +kernel, nh_X8.2.2⟩
theorem mx_X8_findMinutes : Cond.instanceMethod yX8_findMinutes ∈ lw_ok ∧ Cond.selects yX8_findMinutes.cls yX8_findMinutes yX8_findMinutes ∈ lw_ok := ⟨lw_i5 106 rfl rfl, lw_s 58 rfl rfl⟩
theorem my_X8_talkDown : MY yX8_talkDown cX8_talkDown 7 (some .int) 3 := ⟨lw_i5 103 rfl rfl, nh_X8.1, nh_X8.2.1, by decide +kernel, nh_X8.2.2⟩
theorem mx_X8_talkDown : Cond.instanceMethod yX8_talkDown ∈ lw_ok ∧ Cond.selects yX8_talkDown.cls yX8_talkDown yX8_talkDown ∈ lw_ok := ⟨lw_i5 101 rfl rfl, lw_i5 102 rfl rfl⟩
theorem my_X8_minutesOf : MY yX8_minutesOf cX8_minutesOf 8 (some .int) 2 := ⟨lw_i5 115 rfl rfl, nh_X8.1, nh_X8.2.1, by decide +kernel, nh_X8.2.2⟩
theorem mx_X8_minutesOf : Cond.instanceMethod yX8_minutesOf ∈ lw_ok ∧ Cond.selects yX8_minutesOf.cls yX8_minutesOf yX8_minutesOf ∈ lw_ok := ⟨lw_i5 114 rfl rfl, lw_s 59 rfl rfl⟩
theorem my_X8_soonest : MY yX8_soonest cX8_soonest 5 (some .int) 1 := ⟨lw_i5 111 rfl rfl, nh_X8.1, nh_X8.2.1, by decide +kernel, nh_X8.2.2⟩
theorem mx_X8_soonest : Cond.instanceMethod yX8_soonest ∈ lw_ok ∧ Cond.selects yX8_soonest.cls yX8_soonest yX8_soonest ∈ lw_ok := ⟨lw_i5 109 rfl rfl, lw_i5 110 rfl rfl⟩
theorem my_X8_smallestSet : MY yX8_smallestSet cX8_smallestSet 5 (some .int) 0 := ⟨lw_i5 123 rfl rfl, nh_X8.1, nh_X8.2.1, by decide +kernel, nh_X8.2.2⟩
theorem mx_X8_smallestSet : Cond.instanceMethod yX8_smallestSet ∈ lw_ok ∧ Cond.selects yX8_smallestSet.cls yX8_smallestSet yX8_smallestSet ∈ lw_ok := ⟨lw_i5 122 rfl rfl, lw_s 60 rfl rfl⟩
theorem my_X8_needless : MY yX8_needless cX8_needless 4 (some .int) 0 := ⟨lw_i5 130 rfl rfl, nh_X8.1, nh_X8.2.1, by decide +kernel, nh_X8.2.2⟩
theorem mx_X8_needless : Cond.instanceMethod yX8_needless ∈ lw_ok ∧ Cond.selects yX8_needless.cls yX8_needless yX8_needless ∈ lw_ok := ⟨lw_i5 129 rfl rfl, lw_s 61 rfl rfl⟩
theorem my_X8_smallest : MY yX8_smallest cX8_smallest 2 (some .int) 1 := ⟨lw_i5 119 rfl rfl, nh_X8.1, nh_X8.2.1, by decide +kernel, nh_X8.2.2⟩
theorem mx_X8_smallest : Cond.instanceMethod yX8_smallest ∈ lw_ok ∧ Cond.selects yX8_smallest.cls yX8_smallest yX8_smallest ∈ lw_ok := ⟨lw_i5 117 rfl rfl, lw_i5 118 rfl rfl⟩
theorem my_X8_better : MY yX8_better cX8_better 3 (some .int) 2 := ⟨lw_i5 134 rfl rfl, nh_X8.1, nh_X8.2.1, by decide +kernel, nh_X8.2.2⟩
theorem mx_X8_better : Cond.instanceMethod yX8_better ∈ lw_ok ∧ Cond.selects yX8_better.cls yX8_better yX8_better ∈ lw_ok := ⟨lw_i5 132 rfl rfl, lw_i5 133 rfl rfl⟩
theorem my_X8_gains : MY yX8_gains cX8_gains 3 (some .int) 2 := ⟨lw_i5 139 rfl rfl, nh_X8.1, nh_X8.2.1, by decide +kernel, nh_X8.2.2⟩
theorem mx_X8_gains : Cond.instanceMethod yX8_gains ∈ lw_ok ∧ Cond.selects yX8_gains.cls yX8_gains yX8_gains ∈ lw_ok := ⟨lw_i5 137 rfl rfl, lw_i5 138 rfl rfl⟩
theorem my_X8_free : MY yX8_free cX8_free 1 (some .int) 0 := ⟨lw_i5 143 rfl rfl, nh_X8.1, nh_X8.2.1, by decide +kernel, nh_X8.2.2⟩
theorem mx_X8_free : Cond.instanceMethod yX8_free ∈ lw_ok ∧ Cond.selects yX8_free.cls yX8_free yX8_free ∈ lw_ok := ⟨lw_i5 141 rfl rfl, lw_i5 142 rfl rfl⟩
theorem my_X8_share : MY yX8_share cX8_share 4 (some .int) 1 := ⟨lw_i5 147 rfl rfl, nh_X8.1, nh_X8.2.1, by decide +kernel, nh_X8.2.2⟩
theorem mx_X8_share : Cond.instanceMethod yX8_share ∈ lw_ok ∧ Cond.selects yX8_share.cls yX8_share yX8_share ∈ lw_ok := ⟨lw_i5 145 rfl rfl, lw_i5 146 rfl rfl⟩
theorem my_X8_glacier : MY yX8_glacier cX8_glacier 5 (some .int) 1 := ⟨lw_i5 151 rfl rfl, nh_X8.1, nh_X8.2.1, by decide +kernel, nh_X8.2.2⟩
theorem mx_X8_glacier : Cond.instanceMethod yX8_glacier ∈ lw_ok ∧ Cond.selects yX8_glacier.cls yX8_glacier yX8_glacier ∈ lw_ok := ⟨lw_i5 149 rfl rfl, lw_i5 150 rfl rfl⟩
theorem my_X8_ask : MY yX8_ask cX8_ask 4 (some .int) 3 := ⟨lw_i5 157 rfl rfl, nh_X8.1, nh_X8.2.1, by decide +kernel, nh_X8.2.2⟩
theorem mx_X8_ask : Cond.instanceMethod yX8_ask ∈ lw_ok ∧ Cond.selects yX8_ask.cls yX8_ask yX8_ask ∈ lw_ok := ⟨lw_i5 155 rfl rfl, lw_i5 156 rfl rfl⟩
theorem my_X8_answers : MY yX8_answers cX8_answers 4 (some .boolean) 3 := ⟨lw_i5 170 rfl rfl, nh_X8.1, nh_X8.2.1, by decide +kernel, nh_X8.2.2⟩
theorem mx_X8_answers : Cond.static yX8_answers ∈ lw_ok := lw_i5 169 rfl rfl
theorem my_X8_couldBe : MY yX8_couldBe cX8_couldBe 4 (some .boolean) 1 := ⟨lw_i5 167 rfl rfl, nh_X8.1, nh_X8.2.1, by decide +kernel, nh_X8.2.2⟩
theorem mx_X8_couldBe : Cond.instanceMethod yX8_couldBe ∈ lw_ok ∧ Cond.selects yX8_couldBe.cls yX8_couldBe yX8_couldBe ∈ lw_ok := ⟨lw_i5 166 rfl rfl, lw_s 62 rfl rfl⟩
theorem my_X8_minds : MY yX8_minds cX8_minds 6 (some .int) 1 := ⟨lw_i5 162 rfl rfl, nh_X8.1, nh_X8.2.1, by decide +kernel, nh_X8.2.2⟩
theorem mx_X8_minds : Cond.instanceMethod yX8_minds ∈ lw_ok ∧ Cond.selects yX8_minds.cls yX8_minds yX8_minds ∈ lw_ok := ⟨lw_i5 160 rfl rfl, lw_i5 161 rfl rfl⟩
theorem my_X8_askNext : MY yX8_askNext cX8_askNext 6 (some .int) 0 := ⟨lw_i5 174 rfl rfl, nh_X8.1, nh_X8.2.1, by decide +kernel, nh_X8.2.2⟩
theorem mx_X8_askNext : Cond.instanceMethod yX8_askNext ∈ lw_ok ∧ Cond.selects yX8_askNext.cls yX8_askNext yX8_askNext ∈ lw_ok := ⟨lw_i5 172 rfl rfl, lw_i5 173 rfl rfl⟩
theorem my_X8_write : MY yX8_write cX8_write 3 (some .int) 2 := ⟨lw_i5 178 rfl rfl, nh_X8.1, nh_X8.2.1, by decide +kernel, nh_X8.2.2⟩
theorem mx_X8_write : Cond.instanceMethod yX8_write ∈ lw_ok ∧ Cond.selects yX8_write.cls yX8_write yX8_write ∈ lw_ok := ⟨lw_i5 176 rfl rfl, lw_i5 177 rfl rfl⟩
theorem my_X8_tear : MY yX8_tear cX8_tear 2 (some .int) 0 := ⟨lw_i5 182 rfl rfl, nh_X8.1, nh_X8.2.1, by decide +kernel, nh_X8.2.2⟩
theorem mx_X8_tear : Cond.instanceMethod yX8_tear ∈ lw_ok ∧ Cond.selects yX8_tear.cls yX8_tear yX8_tear ∈ lw_ok := ⟨lw_i5 180 rfl rfl, lw_i5 181 rfl rfl⟩
theorem my_X8_judge : MY yX8_judge cX8_judge 3 (some .int) 0 := ⟨lw_i5 186 rfl rfl, nh_X8.1, nh_X8.2.1, by decide +kernel, nh_X8.2.2⟩
theorem mx_X8_judge : Cond.instanceMethod yX8_judge ∈ lw_ok ∧ Cond.selects yX8_judge.cls yX8_judge yX8_judge ∈ lw_ok := ⟨lw_i5 184 rfl rfl, lw_i5 185 rfl rfl⟩
theorem my_X8_seed : MY yX8_seed cX8_seed 3 (some .int) 1 := ⟨lw_i5 190 rfl rfl, nh_X8.1, nh_X8.2.1, by decide +kernel, nh_X8.2.2⟩
theorem mx_X8_seed : Cond.instanceMethod yX8_seed ∈ lw_ok ∧ Cond.selects yX8_seed.cls yX8_seed yX8_seed ∈ lw_ok := ⟨lw_i5 188 rfl rfl, lw_i5 189 rfl rfl⟩
theorem my_X8_keep : MY yX8_keep cX8_keep 3 (some .int) 1 := ⟨lw_i5 194 rfl rfl, nh_X8.1, nh_X8.2.1, by decide +kernel, nh_X8.2.2⟩
theorem mx_X8_keep : Cond.instanceMethod yX8_keep ∈ lw_ok ∧ Cond.selects yX8_keep.cls yX8_keep yX8_keep ∈ lw_ok := ⟨lw_i5 192 rfl rfl, lw_i5 193 rfl rfl⟩
theorem my_X8_goBack : MY yX8_goBack cX8_goBack 3 (some .int) 1 := ⟨lw_i5 198 rfl rfl, nh_X8.1, nh_X8.2.1, by decide +kernel, nh_X8.2.2⟩
theorem mx_X8_goBack : Cond.instanceMethod yX8_goBack ∈ lw_ok ∧ Cond.selects yX8_goBack.cls yX8_goBack yX8_goBack ∈ lw_ok := ⟨lw_i5 196 rfl rfl, lw_i5 197 rfl rfl⟩
theorem my_J6_bitCount_0f7a4 : MY yJ6_bitCount_0f7a4 cJ6_bitCount_0f7a4 1 (some .int) 1 := ⟨lw_i3 108 rfl rfl, nh_J6.1, nh_J6.2.1, by decide +kernel, nh_J6.2.2⟩
theorem mx_J6_bitCount_0f7a4 : Cond.static yJ6_bitCount_0f7a4 ∈ lw_ok := lw_i3 107 rfl rfl
theorem my_J9_max_7cf53 : MY yJ9_max_7cf53 cJ9_max_7cf53 2 (some .int) 2 := ⟨lw_i3 176 rfl rfl, nh_J9.1, nh_J9.2.1, by decide +kernel, nh_J9.2.2⟩
theorem mx_J9_max_7cf53 : Cond.static yJ9_max_7cf53 ∈ lw_ok := lw_i3 175 rfl rfl
theorem my_J9_min_7cf53 : MY yJ9_min_7cf53 cJ9_min_7cf53 2 (some .int) 2 := ⟨lw_i2 104 rfl rfl, nh_J9.1, nh_J9.2.1, by decide +kernel, nh_J9.2.2⟩
theorem mx_J9_min_7cf53 : Cond.static yJ9_min_7cf53 ∈ lw_ok := lw_i2 103 rfl rfl
theorem mv_L_13 : MV RL 13 yX7_feed := ⟨lw_i2 49 rfl rfl, mx_X7_feed.1, mx_X7_feed.2⟩
theorem kc_X7_62 : Cond.constant RX7 62 (-1000000002) ∈ lw_ok := lw_i2 53 rfl rfl
theorem mv_X7_63 : MV RX7 63 yX6_append := ⟨lw_i2 54 rfl rfl, mx_X6_append.1, mx_X6_append.2⟩
theorem kc_X7_71 : Cond.constant RX7 71 (-1000000004) ∈ lw_ok := lw_i2 58 rfl rfl
theorem mv_L_18 : MV RL 18 yX7_thePass := ⟨lw_i2 59 rfl rfl, mx_X7_thePass.1, mx_X7_thePass.2⟩
theorem mv_X7_72 : MV RX7 72 yX6_read := ⟨lw_i2 63 rfl rfl, mx_X6_read.1, mx_X6_read.2⟩
theorem mv_X6_29 : MV RX6 29 yX1_clear := ⟨lw_i2 67 rfl rfl, mx_X1_clear.1, mx_X1_clear.2⟩
theorem mv_X6_38 : MV RX6 38 yX6_skipBlanks := ⟨lw_i2 71 rfl rfl, mx_X6_skipBlanks.1, mx_X6_skipBlanks.2⟩
theorem mv_X6_41 : MV RX6 41 yX6_readClause := ⟨lw_i2 75 rfl rfl, mx_X6_readClause.1, mx_X6_readClause.2⟩
theorem mv_X6_44 : MV RX6 44 yX6_letterHere := ⟨lw_i2 79 rfl rfl, mx_X6_letterHere.1, mx_X6_letterHere.2⟩
theorem mv_X6_48 : MV RX6 48 yX6_checkWord := ⟨lw_i2 83 rfl rfl, mx_X6_checkWord.1, mx_X6_checkWord.2⟩
theorem mv_X6_77 : MV RX6 77 yX6_findFault := ⟨lw_i2 87 rfl rfl, mx_X6_findFault.1, mx_X6_findFault.2⟩
theorem mv_X6_52 : MV RX6 52 yX6_readGate := ⟨lw_i2 91 rfl rfl, mx_X6_readGate.1, mx_X6_readGate.2⟩
theorem mv_X6_93 : MV RX6 93 yX6_readNumber := ⟨lw_i2 95 rfl rfl, mx_X6_readNumber.1, mx_X6_readNumber.2⟩
theorem ms_X6_136 : MS RX6 136 yX6_isFigure := ⟨lw_i2 99 rfl rfl, mx_X6_isFigure⟩
theorem ms_X6_140 : MS RX6 140 yJ9_min_7cf53 := ⟨lw_i2 102 rfl rfl, mx_J9_min_7cf53⟩
theorem mv_X6_55 : MV RX6 55 yX6_readIdea := ⟨lw_i2 105 rfl rfl, mx_X6_readIdea.1, mx_X6_readIdea.2⟩
theorem mv_X6_58 : MV RX6 58 yX6_readJoining := ⟨lw_i2 109 rfl rfl, mx_X6_readJoining.1, mx_X6_readJoining.2⟩
theorem mv_X6_106 : MV RX6 106 yX6_readToldIdea := ⟨lw_i2 113 rfl rfl, mx_X6_readToldIdea.1, mx_X6_readToldIdea.2⟩
theorem mv_X6_61 : MV RX6 61 yX6_readTalk := ⟨lw_i2 117 rfl rfl, mx_X6_readTalk.1, mx_X6_readTalk.2⟩
theorem mv_X6_64 : MV RX6 64 yX6_readRegistered := ⟨lw_i2 121 rfl rfl, mx_X6_readRegistered.1, mx_X6_readRegistered.2⟩
theorem mv_X6_67 : MV RX6 67 yX6_readTraveller := ⟨lw_i2 125 rfl rfl, mx_X6_readTraveller.1, mx_X6_readTraveller.2⟩
theorem mv_X6_70 : MV RX6 70 yX6_readEnd := ⟨lw_i2 129 rfl rfl, mx_X6_readEnd.1, mx_X6_readEnd.2⟩
theorem mv_X7_79 : MV RX7 79 yX6_exchange := ⟨lw_i2 133 rfl rfl, mx_X6_exchange.1, mx_X6_exchange.2⟩
theorem mv_X7_83 : MV RX7 83 yX1_findAllFrom := ⟨lw_i2 137 rfl rfl, mx_X1_findAllFrom.1, mx_X1_findAllFrom.2⟩
theorem mv_X1_65 : MV RX1 65 yX1_joined := ⟨lw_i2 141 rfl rfl, mx_X1_joined.1, mx_X1_joined.2⟩
theorem mv_X7_86 : MV RX7 86 yX4_begin := ⟨lw_i2 145 rfl rfl, mx_X4_begin.1, mx_X4_begin.2⟩
theorem mv_X4_15 : MV RX4 15 yX1_isTraveller := ⟨lw_i2 149 rfl rfl, mx_X1_isTraveller.1, mx_X1_isTraveller.2⟩
theorem mv_X7_93 : MV RX7 93 yX2_forget := ⟨lw_i2 153 rfl rfl, mx_X2_forget.1, mx_X2_forget.2⟩
theorem mv_L_23 : MV RL 23 yX7_fault := ⟨lw_i2 157 rfl rfl, mx_X7_fault.1, mx_X7_fault.2⟩
theorem mv_L_27 : MV RL 27 yX7_told := ⟨lw_i2 161 rfl rfl, mx_X7_told.1, mx_X7_told.2⟩
theorem mv_X7_122 : MV RX7 122 yX7_inTheCountry := ⟨lw_i2 165 rfl rfl, mx_X7_inTheCountry.1, mx_X7_inTheCountry.2⟩
theorem mv_X7_210 : MV RX7 210 yX1_allFrom := ⟨lw_i2 169 rfl rfl, mx_X1_allFrom.1, mx_X1_allFrom.2⟩
theorem mv_X1_69 : MV RX1 69 yX1_isSet := ⟨lw_i2 173 rfl rfl, mx_X1_isSet.1, mx_X1_isSet.2⟩
theorem mv_X7_129 : MV RX7 129 yX7_stuckOnes := ⟨lw_i2 177 rfl rfl, mx_X7_stuckOnes.1, mx_X7_stuckOnes.2⟩
theorem mv_X7_158 : MV RX7 158 yX4_isGone := ⟨lw_i2 181 rfl rfl, mx_X4_isGone.1, mx_X4_isGone.2⟩
theorem mv_X7_148 : MV RX7 148 yX4_mindOf := ⟨lw_i2 185 rfl rfl, mx_X4_mindOf.1, mx_X4_mindOf.2⟩
theorem mv_X7_161 : MV RX7 161 yX1_isStuck := ⟨lw_i2 189 rfl rfl, mx_X1_isStuck.1, mx_X1_isStuck.2⟩
theorem mv_X1_73 : MV RX1 73 yX1_sizeOf := ⟨lw_i2 193 rfl rfl, mx_X1_sizeOf.1, mx_X1_sizeOf.2⟩
theorem mv_L_31 : MV RL 31 yX7_size := ⟨lw_i2 197 rfl rfl, mx_X7_size.1, mx_X7_size.2⟩
theorem mv_X7_138 : MV RX7 138 yX1_isIdea := ⟨lw_i2 201 rfl rfl, mx_X1_isIdea.1, mx_X1_isIdea.2⟩
theorem kc_X7_144 : Cond.constant RX7 144 (-1000000001) ∈ lw_ok := lw_i2 205 rfl rfl
theorem mv_L_35 : MV RL 35 yX7_traveller := ⟨lw_i2 206 rfl rfl, mx_X7_traveller.1, mx_X7_traveller.2⟩
theorem mv_X7_145 : MV RX7 145 yX1_isTraveller := ⟨lw_i2 210 rfl rfl, mx_X1_isTraveller.1, mx_X1_isTraveller.2⟩
theorem mv_X7_152 : MV RX7 152 yX1_sizeOf := ⟨lw_i2 211 rfl rfl, mx_X1_sizeOf.1, mx_X1_sizeOf.2⟩
theorem mv_X7_155 : MV RX7 155 yX7_dutyOf := ⟨lw_i2 212 rfl rfl, mx_X7_dutyOf.1, mx_X7_dutyOf.2⟩
theorem mv_X7_213 : MV RX7 213 yX1_duty := ⟨lw_i2 216 rfl rfl, mx_X1_duty.1, mx_X1_duty.2⟩
theorem mv_X1_76 : MV RX1 76 yX1_allFrom := ⟨lw_i2 220 rfl rfl, mx_X1_allFrom.1, mx_X1_allFrom.2⟩
theorem mv_L_40 : MV RL 40 yX7_pass := ⟨lw_i2 221 rfl rfl, mx_X7_pass.1, mx_X7_pass.2⟩
theorem kc_X7_164 : Cond.constant RX7 164 (-1000000003) ∈ lw_ok := lw_i2 225 rfl rfl
theorem mv_X7_165 : MV RX7 165 yX3_remember := ⟨lw_i2 226 rfl rfl, mx_X3_remember.1, mx_X3_remember.2⟩
theorem mv_X3_22 : MV RX3 22 yX4_become := ⟨lw_i2 230 rfl rfl, mx_X4_become.1, mx_X4_become.2⟩
theorem ms_X3_29 : MS RX3 29 yJ9_min_7cf53 := ⟨lw_i2 234 rfl rfl, mx_J9_min_7cf53⟩
theorem mv_X7_169 : MV RX7 169 yX7_letPass := ⟨lw_i2 235 rfl rfl, mx_X7_letPass.1, mx_X7_letPass.2⟩
theorem kc_X7_188 : Cond.constant RX7 188 (999999) ∈ lw_ok := lw_i2 239 rfl rfl
theorem ms_X7_189 : MS RX7 189 yJ9_min_7cf53 := ⟨lw_i3 0 rfl rfl, mx_J9_min_7cf53⟩
theorem mv_X7_172 : MV RX7 172 yX4_leaves := ⟨lw_i3 1 rfl rfl, mx_X4_leaves.1, mx_X4_leaves.2⟩
theorem mv_X4_40 : MV RX4 40 yX4_mindOf := ⟨lw_i3 5 rfl rfl, mx_X4_mindOf.1, mx_X4_mindOf.2⟩
theorem mv_L_44 : MV RL 44 yX7_goRound := ⟨lw_i3 6 rfl rfl, mx_X7_goRound.1, mx_X7_goRound.2⟩
theorem mv_L_49 : MV RL 49 yX7_talk := ⟨lw_i3 10 rfl rfl, mx_X7_talk.1, mx_X7_talk.2⟩
theorem mv_X7_176 : MV RX7 176 yX1_quickest := ⟨lw_i3 14 rfl rfl, mx_X1_quickest.1, mx_X1_quickest.2⟩
theorem ms_X7_180 : MS RX7 180 yX7_afterTalk := ⟨lw_i3 18 rfl rfl, mx_X7_afterTalk⟩
theorem mv_X7_184 : MV RX7 184 yX4_setMind := ⟨lw_i3 21 rfl rfl, mx_X4_setMind.1, mx_X4_setMind.2⟩
theorem mv_L_54 : MV RL 54 yX7_come := ⟨lw_i3 25 rfl rfl, mx_X7_come.1, mx_X7_come.2⟩
theorem mv_X7_194 : MV RX7 194 yX1_isSet := ⟨lw_i3 29 rfl rfl, mx_X1_isSet.1, mx_X1_isSet.2⟩
theorem mv_X7_197 : MV RX7 197 yX4_comes := ⟨lw_i3 30 rfl rfl, mx_X4_comes.1, mx_X4_comes.2⟩
theorem mv_X4_36 : MV RX4 36 yX4_setMind := ⟨lw_i3 34 rfl rfl, mx_X4_setMind.1, mx_X4_setMind.2⟩
theorem mv_L_58 : MV RL 58 yX7_register := ⟨lw_i3 35 rfl rfl, mx_X7_register.1, mx_X7_register.2⟩
theorem mv_L_62 : MV RL 62 yX7_drift := ⟨lw_i3 39 rfl rfl, mx_X7_drift.1, mx_X7_drift.2⟩
theorem mv_X7_204 : MV RX7 204 yX7_driftOneDay := ⟨lw_i3 43 rfl rfl, mx_X7_driftOneDay.1, mx_X7_driftOneDay.2⟩
theorem mv_X7_286 : MV RX7 286 yX7_draw := ⟨lw_i3 47 rfl rfl, mx_X7_draw.1, mx_X7_draw.2⟩
theorem kc_X7_289 : Cond.constantLong RX7 289 (1103515245) ∈ lw_ok := lw_i3 51 rfl rfl
theorem kc_X7_291 : Cond.constantLong RX7 291 (12345) ∈ lw_ok := lw_i3 52 rfl rfl
theorem kc_X7_293 : Cond.constantLong RX7 293 (2147483647) ∈ lw_ok := lw_i3 53 rfl rfl
theorem kc_X7_295 : Cond.constant RX7 295 (65536) ∈ lw_ok := lw_i3 54 rfl rfl
theorem mv_L_66 : MV RL 66 yX7_undo := ⟨lw_i3 55 rfl rfl, mx_X7_undo.1, mx_X7_undo.2⟩
theorem mv_X7_207 : MV RX7 207 yX3_bringBack := ⟨lw_i3 59 rfl rfl, mx_X3_bringBack.1, mx_X3_bringBack.2⟩
theorem mv_L_70 : MV RL 70 yX7_follows := ⟨lw_i3 63 rfl rfl, mx_X7_follows.1, mx_X7_follows.2⟩
theorem mv_L_74 : MV RL 74 yX7_owed := ⟨lw_i3 67 rfl rfl, mx_X7_owed.1, mx_X7_owed.2⟩
theorem mv_L_78 : MV RL 78 yX7_parts := ⟨lw_i3 71 rfl rfl, mx_X7_parts.1, mx_X7_parts.2⟩
theorem mv_X7_216 : MV RX7 216 yX7_cheapestParts := ⟨lw_i3 75 rfl rfl, mx_X7_cheapestParts.1, mx_X7_cheapestParts.2⟩
theorem mv_L_82 : MV RL 82 yX7_talkDown := ⟨lw_i3 79 rfl rfl, mx_X7_talkDown.1, mx_X7_talkDown.2⟩
theorem mv_X7_219 : MV RX7 219 yX1_findMinutes := ⟨lw_i3 83 rfl rfl, mx_X1_findMinutes.1, mx_X1_findMinutes.2⟩
theorem mv_X7_223 : MV RX7 223 yX7_nextOnTheWay := ⟨lw_i3 87 rfl rfl, mx_X7_nextOnTheWay.1, mx_X7_nextOnTheWay.2⟩
theorem mv_L_86 : MV RL 86 yX7_soonest := ⟨lw_i3 91 rfl rfl, mx_X7_soonest.1, mx_X7_soonest.2⟩
theorem ms_X7_226 : MS RX7 226 yX7_fewestMinutes := ⟨lw_i3 95 rfl rfl, mx_X7_fewestMinutes⟩
theorem mv_L_90 : MV RL 90 yX7_smallest := ⟨lw_i3 98 rfl rfl, mx_X7_smallest.1, mx_X7_smallest.2⟩
theorem mv_X7_230 : MV RX7 230 yX7_smallestRegister := ⟨lw_i3 102 rfl rfl, mx_X7_smallestRegister.1, mx_X7_smallestRegister.2⟩
theorem ms_X7_305 : MS RX7 305 yJ6_bitCount_0f7a4 := ⟨lw_i3 106 rfl rfl, mx_J6_bitCount_0f7a4⟩
theorem kc_J6_265 : Cond.constant RJ6 265 (1431655765) ∈ lw_ok := lw_i3 109 rfl rfl
theorem kc_J6_266 : Cond.constant RJ6 266 (858993459) ∈ lw_ok := lw_i3 110 rfl rfl
theorem kc_J6_267 : Cond.constant RJ6 267 (252645135) ∈ lw_ok := lw_i3 111 rfl rfl
theorem mv_X7_233 : MV RX7 233 yX7_needless := ⟨lw_i3 112 rfl rfl, mx_X7_needless.1, mx_X7_needless.2⟩
theorem mv_L_94 : MV RL 94 yX7_better := ⟨lw_i3 116 rfl rfl, mx_X7_better.1, mx_X7_better.2⟩
theorem mv_L_98 : MV RL 98 yX7_gains := ⟨lw_i3 120 rfl rfl, mx_X7_gains.1, mx_X7_gains.2⟩
theorem mv_L_102 : MV RL 102 yX7_free := ⟨lw_i3 124 rfl rfl, mx_X7_free.1, mx_X7_free.2⟩
theorem mv_L_106 : MV RL 106 yX7_share := ⟨lw_i3 128 rfl rfl, mx_X7_share.1, mx_X7_share.2⟩
theorem mv_L_110 : MV RL 110 yX7_glacier := ⟨lw_i3 132 rfl rfl, mx_X7_glacier.1, mx_X7_glacier.2⟩
theorem kc_X7_236 : Cond.constantLong RX7 236 (1000000000) ∈ lw_ok := lw_i3 136 rfl rfl
theorem kc_X7_238 : Cond.constantLong RX7 238 (100) ∈ lw_ok := lw_i3 137 rfl rfl
theorem mv_L_114 : MV RL 114 yX7_ask := ⟨lw_i3 138 rfl rfl, mx_X7_ask.1, mx_X7_ask.2⟩
theorem mv_X7_240 : MV RX7 240 yX5_append := ⟨lw_i3 142 rfl rfl, mx_X5_append.1, mx_X5_append.2⟩
theorem mv_L_119 : MV RL 119 yX7_minds := ⟨lw_i3 146 rfl rfl, mx_X7_minds.1, mx_X7_minds.2⟩
theorem mv_X7_243 : MV RX7 243 yX5_look := ⟨lw_i3 150 rfl rfl, mx_X5_look.1, mx_X5_look.2⟩
theorem mv_X5_38 : MV RX5 38 yX5_fits := ⟨lw_i3 154 rfl rfl, mx_X5_fits.1, mx_X5_fits.2⟩
theorem ms_X5_46 : MS RX5 46 yX5_isSo := ⟨lw_i3 158 rfl rfl, mx_X5_isSo⟩
theorem ms_X5_50 : MS RX5 50 yJ6_bitCount_0f7a4 := ⟨lw_i3 161 rfl rfl, mx_J6_bitCount_0f7a4⟩
theorem mv_X5_42 : MV RX5 42 yX5_countIdeas := ⟨lw_i3 162 rfl rfl, mx_X5_countIdeas.1, mx_X5_countIdeas.2⟩
theorem mv_L_123 : MV RL 123 yX7_askNext := ⟨lw_i3 166 rfl rfl, mx_X7_askNext.1, mx_X7_askNext.2⟩
theorem mv_X7_256 : MV RX7 256 yX5_bestIdea := ⟨lw_i3 170 rfl rfl, mx_X5_bestIdea.1, mx_X5_bestIdea.2⟩
theorem ms_X5_56 : MS RX5 56 yJ9_max_7cf53 := ⟨lw_i3 174 rfl rfl, mx_J9_max_7cf53⟩
theorem mv_L_127 : MV RL 127 yX7_write := ⟨lw_i3 177 rfl rfl, mx_X7_write.1, mx_X7_write.2⟩
theorem mv_X7_259 : MV RX7 259 yX0_append := ⟨lw_i3 181 rfl rfl, mx_X0_append.1, mx_X0_append.2⟩
theorem mv_L_131 : MV RL 131 yX7_tear := ⟨lw_i3 185 rfl rfl, mx_X7_tear.1, mx_X7_tear.2⟩
theorem mv_L_135 : MV RL 135 yX7_judge := ⟨lw_i3 189 rfl rfl, mx_X7_judge.1, mx_X7_judge.2⟩
theorem mv_X7_262 : MV RX7 262 yX0_firstWrong := ⟨lw_i3 193 rfl rfl, mx_X0_firstWrong.1, mx_X0_firstWrong.2⟩
theorem mv_L_139 : MV RL 139 yX7_seed := ⟨lw_i3 197 rfl rfl, mx_X7_seed.1, mx_X7_seed.2⟩
theorem mv_L_143 : MV RL 143 yX7_keep := ⟨lw_i3 201 rfl rfl, mx_X7_keep.1, mx_X7_keep.2⟩
theorem mv_X7_268 : MV RX7 268 yX2_take := ⟨lw_i3 205 rfl rfl, mx_X2_take.1, mx_X2_take.2⟩
theorem mv_X2_26 : MV RX2 26 yX4_become := ⟨lw_i3 209 rfl rfl, mx_X4_become.1, mx_X4_become.2⟩
theorem mv_L_147 : MV RL 147 yX7_goBack := ⟨lw_i3 210 rfl rfl, mx_X7_goBack.1, mx_X7_goBack.2⟩
theorem mv_X7_280 : MV RX7 280 yX4_become := ⟨lw_i3 214 rfl rfl, mx_X4_become.1, mx_X4_become.2⟩
theorem mv_L_17 : MV RL 17 yX8_feed := ⟨lw_i4 126 rfl rfl, mx_X8_feed.1, mx_X8_feed.2⟩
theorem kc_X8_113 : Cond.constantLong RX8 113 (255) ∈ lw_ok := lw_i4 130 rfl rfl
theorem ms_X8_106 : MS RX8 106 yX8_in := ⟨lw_i4 131 rfl rfl, mx_X8_in⟩
theorem kc_X8_115 : Cond.constant RX8 115 (-1000000002) ∈ lw_ok := lw_i4 134 rfl rfl
theorem kc_X8_119 : Cond.constant RX8 119 (-1000000004) ∈ lw_ok := lw_i4 135 rfl rfl
theorem mv_L_22 : MV RL 22 yX8_thePass := ⟨lw_i4 136 rfl rfl, mx_X8_thePass.1, mx_X8_thePass.2⟩
theorem mv_X8_123 : MV RX8 123 yX8_here := ⟨lw_i4 140 rfl rfl, mx_X8_here.1, mx_X8_here.2⟩
theorem mv_X8_205 : MV RX8 205 yX8_takeClause := ⟨lw_i4 144 rfl rfl, mx_X8_takeClause.1, mx_X8_takeClause.2⟩
theorem mv_X8_185 : MV RX8 185 yX8_whichClause := ⟨lw_i4 148 rfl rfl, mx_X8_whichClause.1, mx_X8_whichClause.2⟩
theorem mv_X8_131 : MV RX8 131 yX8_fails := ⟨lw_i4 152 rfl rfl, mx_X8_fails.1, mx_X8_fails.2⟩
theorem mv_X8_189 : MV RX8 189 yX8_isFull := ⟨lw_i4 156 rfl rfl, mx_X8_isFull.1, mx_X8_isFull.2⟩
theorem mv_X8_193 : MV RX8 193 yX8_takeBody := ⟨lw_i4 160 rfl rfl, mx_X8_takeBody.1, mx_X8_takeBody.2⟩
theorem mv_X8_167 : MV RX8 167 yX8_takeGate := ⟨lw_i4 164 rfl rfl, mx_X8_takeGate.1, mx_X8_takeGate.2⟩
theorem mv_X8_144 : MV RX8 144 yX8_into := ⟨lw_i4 168 rfl rfl, mx_X8_into.1, mx_X8_into.2⟩
theorem mv_X8_141 : MV RX8 141 yX8_takeNumber := ⟨lw_i4 172 rfl rfl, mx_X8_takeNumber.1, mx_X8_takeNumber.2⟩
theorem kc_X8_127 : Cond.constantLong RX8 127 (48) ∈ lw_ok := lw_i4 176 rfl rfl
theorem kc_X8_129 : Cond.constantLong RX8 129 (57) ∈ lw_ok := lw_i4 177 rfl rfl
theorem mv_X8_170 : MV RX8 170 yX8_takeIdea := ⟨lw_i4 178 rfl rfl, mx_X8_takeIdea.1, mx_X8_takeIdea.2⟩
theorem mv_X8_173 : MV RX8 173 yX8_takeJoin := ⟨lw_i4 182 rfl rfl, mx_X8_takeJoin.1, mx_X8_takeJoin.2⟩
theorem mv_X8_176 : MV RX8 176 yX8_takeTalk := ⟨lw_i4 186 rfl rfl, mx_X8_takeTalk.1, mx_X8_takeTalk.2⟩
theorem mv_X8_179 : MV RX8 179 yX8_takeRegistered := ⟨lw_i4 190 rfl rfl, mx_X8_takeRegistered.1, mx_X8_takeRegistered.2⟩
theorem ms_X8_160 : MS RX8 160 yX8_has := ⟨lw_i4 194 rfl rfl, mx_X8_has⟩
theorem mv_X8_182 : MV RX8 182 yX8_takeTraveller := ⟨lw_i4 197 rfl rfl, mx_X8_takeTraveller.1, mx_X8_takeTraveller.2⟩
theorem mv_X8_208 : MV RX8 208 yX8_takeRead := ⟨lw_i4 201 rfl rfl, mx_X8_takeRead.1, mx_X8_takeRead.2⟩
theorem mv_L_26 : MV RL 26 yX8_fault := ⟨lw_i4 205 rfl rfl, mx_X8_fault.1, mx_X8_fault.2⟩
theorem mv_L_30 : MV RL 30 yX8_told := ⟨lw_i4 209 rfl rfl, mx_X8_told.1, mx_X8_told.2⟩
theorem mv_X8_220 : MV RX8 220 yX8_close := ⟨lw_i4 213 rfl rfl, mx_X8_close.1, mx_X8_close.2⟩
theorem mv_X8_235 : MV RX8 235 yX8_stuckOnes := ⟨lw_i4 217 rfl rfl, mx_X8_stuckOnes.1, mx_X8_stuckOnes.2⟩
theorem mv_X8_229 : MV RX8 229 yX8_isGone := ⟨lw_i4 221 rfl rfl, mx_X8_isGone.1, mx_X8_isGone.2⟩
theorem mv_X8_232 : MV RX8 232 yX8_isStuck := ⟨lw_i4 225 rfl rfl, mx_X8_isStuck.1, mx_X8_isStuck.2⟩
theorem mv_X8_226 : MV RX8 226 yX8_sizeOf := ⟨lw_i4 229 rfl rfl, mx_X8_sizeOf.1, mx_X8_sizeOf.2⟩
theorem mv_L_34 : MV RL 34 yX8_size := ⟨lw_i4 233 rfl rfl, mx_X8_size.1, mx_X8_size.2⟩
theorem mv_X8_238 : MV RX8 238 yX8_isIdea := ⟨lw_i4 237 rfl rfl, mx_X8_isIdea.1, mx_X8_isIdea.2⟩
theorem kc_X8_241 : Cond.constant RX8 241 (-1000000001) ∈ lw_ok := lw_i5 1 rfl rfl
theorem mv_L_39 : MV RL 39 yX8_traveller := ⟨lw_i5 2 rfl rfl, mx_X8_traveller.1, mx_X8_traveller.2⟩
theorem mv_X8_242 : MV RX8 242 yX8_isTraveller := ⟨lw_i5 6 rfl rfl, mx_X8_isTraveller.1, mx_X8_isTraveller.2⟩
theorem mv_X8_245 : MV RX8 245 yX8_owedFor := ⟨lw_i5 10 rfl rfl, mx_X8_owedFor.1, mx_X8_owedFor.2⟩
theorem mv_X8_223 : MV RX8 223 yX8_owedWhere := ⟨lw_i5 14 rfl rfl, mx_X8_owedWhere.1, mx_X8_owedWhere.2⟩
theorem mv_L_43 : MV RL 43 yX8_pass := ⟨lw_i5 18 rfl rfl, mx_X8_pass.1, mx_X8_pass.2⟩
theorem kc_X8_251 : Cond.constant RX8 251 (-1000000003) ∈ lw_ok := lw_i5 22 rfl rfl
theorem mv_X8_252 : MV RX8 252 yX8_remember := ⟨lw_i5 23 rfl rfl, mx_X8_remember.1, mx_X8_remember.2⟩
theorem mv_X8_255 : MV RX8 255 yX8_passNow := ⟨lw_i5 27 rfl rfl, mx_X8_passNow.1, mx_X8_passNow.2⟩
theorem ms_X8_248 : MS RX8 248 yX8_atMost := ⟨lw_i5 31 rfl rfl, mx_X8_atMost⟩
theorem kc_X8_102 : Cond.constant RX8 102 (999999) ∈ lw_ok := lw_i5 34 rfl rfl
theorem mv_L_48 : MV RL 48 yX8_goRound := ⟨lw_i5 35 rfl rfl, mx_X8_goRound.1, mx_X8_goRound.2⟩
theorem mv_X8_258 : MV RX8 258 yX8_roundNow := ⟨lw_i5 39 rfl rfl, mx_X8_roundNow.1, mx_X8_roundNow.2⟩
theorem mv_L_53 : MV RL 53 yX8_talk := ⟨lw_i5 43 rfl rfl, mx_X8_talk.1, mx_X8_talk.2⟩
theorem mv_X8_263 : MV RX8 263 yX8_quickest := ⟨lw_i5 47 rfl rfl, mx_X8_quickest.1, mx_X8_quickest.2⟩
theorem kc_X8_262 : Cond.constant RX8 262 (1000000) ∈ lw_ok := lw_i5 51 rfl rfl
theorem ms_X8_266 : MS RX8 266 yX8_talked := ⟨lw_i5 52 rfl rfl, mx_X8_talked⟩
theorem mv_L_57 : MV RL 57 yX8_come := ⟨lw_i5 55 rfl rfl, mx_X8_come.1, mx_X8_come.2⟩
theorem mv_X8_270 : MV RX8 270 yX8_isSet := ⟨lw_i5 59 rfl rfl, mx_X8_isSet.1, mx_X8_isSet.2⟩
theorem mv_L_61 : MV RL 61 yX8_register := ⟨lw_i5 63 rfl rfl, mx_X8_register.1, mx_X8_register.2⟩
theorem mv_L_65 : MV RL 65 yX8_drift := ⟨lw_i5 67 rfl rfl, mx_X8_drift.1, mx_X8_drift.2⟩
theorem kc_X8_286 : Cond.constantLong RX8 286 (60) ∈ lw_ok := lw_i5 71 rfl rfl
theorem mv_X8_288 : MV RX8 288 yX8_dayByDraws := ⟨lw_i5 72 rfl rfl, mx_X8_dayByDraws.1, mx_X8_dayByDraws.2⟩
theorem mv_X8_283 : MV RX8 283 yX8_draw := ⟨lw_i5 76 rfl rfl, mx_X8_draw.1, mx_X8_draw.2⟩
theorem kc_X8_276 : Cond.constantLong RX8 276 (1103515245) ∈ lw_ok := lw_i5 80 rfl rfl
theorem kc_X8_278 : Cond.constantLong RX8 278 (12345) ∈ lw_ok := lw_i5 81 rfl rfl
theorem kc_X8_280 : Cond.constantLong RX8 280 (2147483648) ∈ lw_ok := lw_i5 82 rfl rfl
theorem kc_X8_282 : Cond.constant RX8 282 (65536) ∈ lw_ok := lw_i5 83 rfl rfl
theorem mv_L_69 : MV RL 69 yX8_undo := ⟨lw_i5 84 rfl rfl, mx_X8_undo.1, mx_X8_undo.2⟩
theorem mv_L_73 : MV RL 73 yX8_follows := ⟨lw_i5 88 rfl rfl, mx_X8_follows.1, mx_X8_follows.2⟩
theorem mv_L_77 : MV RL 77 yX8_owed := ⟨lw_i5 92 rfl rfl, mx_X8_owed.1, mx_X8_owed.2⟩
theorem mv_L_81 : MV RL 81 yX8_parts := ⟨lw_i5 96 rfl rfl, mx_X8_parts.1, mx_X8_parts.2⟩
theorem mv_L_85 : MV RL 85 yX8_talkDown := ⟨lw_i5 100 rfl rfl, mx_X8_talkDown.1, mx_X8_talkDown.2⟩
theorem mv_X8_291 : MV RX8 291 yX8_findMinutes := ⟨lw_i5 104 rfl rfl, mx_X8_findMinutes.1, mx_X8_findMinutes.2⟩
theorem mv_L_89 : MV RL 89 yX8_soonest := ⟨lw_i5 108 rfl rfl, mx_X8_soonest.1, mx_X8_soonest.2⟩
theorem mv_X8_295 : MV RX8 295 yX8_minutesOf := ⟨lw_i5 112 rfl rfl, mx_X8_minutesOf.1, mx_X8_minutesOf.2⟩
theorem mv_L_93 : MV RL 93 yX8_smallest := ⟨lw_i5 116 rfl rfl, mx_X8_smallest.1, mx_X8_smallest.2⟩
theorem mv_X8_301 : MV RX8 301 yX8_smallestSet := ⟨lw_i5 120 rfl rfl, mx_X8_smallestSet.1, mx_X8_smallestSet.2⟩
theorem ms_X8_298 : MS RX8 298 yX8_bits := ⟨lw_i5 124 rfl rfl, mx_X8_bits⟩
theorem mv_X8_304 : MV RX8 304 yX8_needless := ⟨lw_i5 127 rfl rfl, mx_X8_needless.1, mx_X8_needless.2⟩
theorem mv_L_97 : MV RL 97 yX8_better := ⟨lw_i5 131 rfl rfl, mx_X8_better.1, mx_X8_better.2⟩
theorem kc_X8_307 : Cond.constantLong RX8 307 (9999) ∈ lw_ok := lw_i5 135 rfl rfl
theorem mv_L_101 : MV RL 101 yX8_gains := ⟨lw_i5 136 rfl rfl, mx_X8_gains.1, mx_X8_gains.2⟩
theorem mv_L_105 : MV RL 105 yX8_free := ⟨lw_i5 140 rfl rfl, mx_X8_free.1, mx_X8_free.2⟩
theorem mv_L_109 : MV RL 109 yX8_share := ⟨lw_i5 144 rfl rfl, mx_X8_share.1, mx_X8_share.2⟩
theorem mv_L_113 : MV RL 113 yX8_glacier := ⟨lw_i5 148 rfl rfl, mx_X8_glacier.1, mx_X8_glacier.2⟩
theorem kc_X8_309 : Cond.constantLong RX8 309 (1000000000) ∈ lw_ok := lw_i5 152 rfl rfl
theorem kc_X8_311 : Cond.constantLong RX8 311 (100) ∈ lw_ok := lw_i5 153 rfl rfl
theorem mv_L_118 : MV RL 118 yX8_ask := ⟨lw_i5 154 rfl rfl, mx_X8_ask.1, mx_X8_ask.2⟩
theorem kc_X8_313 : Cond.constantLong RX8 313 (10) ∈ lw_ok := lw_i5 158 rfl rfl
theorem mv_L_122 : MV RL 122 yX8_minds := ⟨lw_i5 159 rfl rfl, mx_X8_minds.1, mx_X8_minds.2⟩
theorem kc_X8_319 : Cond.constantLong RX8 319 (2) ∈ lw_ok := lw_i5 163 rfl rfl
theorem mv_X8_321 : MV RX8 321 yX8_couldBe := ⟨lw_i5 164 rfl rfl, mx_X8_couldBe.1, mx_X8_couldBe.2⟩
theorem ms_X8_315 : MS RX8 315 yX8_answers := ⟨lw_i5 168 rfl rfl, mx_X8_answers⟩
theorem mv_L_126 : MV RL 126 yX8_askNext := ⟨lw_i5 171 rfl rfl, mx_X8_askNext.1, mx_X8_askNext.2⟩
theorem mv_L_130 : MV RL 130 yX8_write := ⟨lw_i5 175 rfl rfl, mx_X8_write.1, mx_X8_write.2⟩
theorem mv_L_134 : MV RL 134 yX8_tear := ⟨lw_i5 179 rfl rfl, mx_X8_tear.1, mx_X8_tear.2⟩
theorem mv_L_138 : MV RL 138 yX8_judge := ⟨lw_i5 183 rfl rfl, mx_X8_judge.1, mx_X8_judge.2⟩
theorem mv_L_142 : MV RL 142 yX8_seed := ⟨lw_i5 187 rfl rfl, mx_X8_seed.1, mx_X8_seed.2⟩
theorem mv_L_146 : MV RL 146 yX8_keep := ⟨lw_i5 191 rfl rfl, mx_X8_keep.1, mx_X8_keep.2⟩
theorem mv_L_150 : MV RL 150 yX8_goBack := ⟨lw_i5 195 rfl rfl, mx_X8_goBack.1, mx_X8_goBack.2⟩
theorem mm_min : Cond.static Lib.Math.min.name ∈ lw_ok ∧ Cond.initialized "java/lang/Math" ∈ lw_ok ∧ Cond.code Lib.Math.min.name Lib.Math.min.code 2 (some .int) ∈ lw_ok := ⟨lw_i2 103 rfl rfl, lw_i1 10 rfl rfl, lw_i2 104 rfl rfl⟩
theorem ml_X6_140 : Cond.methodLink RX6 140 Lib.Math.min.name ∈ lw_ok := lw_i2 102 rfl rfl
theorem ml_X3_29 : Cond.methodLink RX3 29 Lib.Math.min.name ∈ lw_ok := lw_i2 234 rfl rfl
theorem ml_X7_189 : Cond.methodLink RX7 189 Lib.Math.min.name ∈ lw_ok := lw_i3 0 rfl rfl
theorem mm_max : Cond.static Lib.Math.max.name ∈ lw_ok ∧ Cond.initialized "java/lang/Math" ∈ lw_ok ∧ Cond.code Lib.Math.max.name Lib.Math.max.code 2 (some .int) ∈ lw_ok := ⟨lw_i3 175 rfl rfl, lw_i1 10 rfl rfl, lw_i3 176 rfl rfl⟩
theorem ml_X5_56 : Cond.methodLink RX5 56 Lib.Math.max.name ∈ lw_ok := lw_i3 174 rfl rfl
end
section
theorem lw_cov2 {x : Int32} {o0 o1 d : Int} (h : x ∉ ([1, 0] : List Int32)) : Op.lookupswitch.offset [(0, o0), (1, o1)] d x.toInt = d := by
  rw [lv_osw (k := 0) (a := 0) (fun q => h (by simp [q])) (by decide), lv_osw (k := 1) (a := 1) (fun q => h (by simp [q])) (by decide)]
  rfl
theorem mj_tdflt2 {SH : List Sh} {K : Kx} {Y : Yx} {cs : Nat × Nat} {pc : Nat} {ls : List (Nat × Value)} {st : List Value} {h : Mm} {cc : ByteArray} {own : String} {mL f lo : Nat} {α : Type} {E : Option α} {P : α → Prop} (C : Cx K Y cs cc own mL f lo) {x : Int32} {L : List Int32} {dflt lw hg : Int} {offs : Array Int} {len : Nat} (tgt n : Nat) (hd : decode cc pc = .ok (.tableswitch dflt lw hg offs, len)) (hcov : ∀ i : Nat, i < n → Int32.ofInt (lw + i) ∈ L ∨ offs[i]? = some dflt) (hn : hg = lw + (n : Int) - 1) (ht : (pc : Int) + dflt = (tgt : Int)) (kk : J SH K Y cs (mj_O E P) tgt ls st h) : J SH K Y cs (x ∉ L ∧ mj_O E P) pc ls (.int x :: st) h := by
  obtain ⟨p, e, R, s, m, args, below, meth, c, Q, nL⟩ := Y
  obtain ⟨hx, hb, hml, hown, hts, hK, hce, hcs, hfr, hlo, hnl⟩ := C
  intro hX H locs la hP hS hL
  rcases Int.lt_or_le x.toInt lw with q | q
  · exact lv_tableOut hx hb hd (Or.inl q) ht (kk hX.2 H locs la hP hS hL)
  · rcases Int.lt_or_le hg x.toInt with q2 | q2
    · exact lv_tableOut hx hb hd (Or.inr q2) ht (kk hX.2 H locs la hP hS hL)
    · rcases hcov (x.toInt - lw).toNat (by omega) with h3 | h3
      · rw [show lw + ((x.toInt - lw).toNat : Int) = x.toInt by omega, Int32.ofInt_toInt] at h3
        exact absurd h3 hX.1
      · exact lv_tableIn hx hb hd (by omega) (by omega) h3 ht (kk hX.2 H locs la hP hS hL)
end
section
theorem dX0_init_0 : decode cX0_init 0 = .ok (.aload_n 0, 1) := by decide +kernel
theorem dX0_init_1 : decode cX0_init 1 = .ok (.invokespecial 3, 3) := by decide +kernel
theorem dX0_init_4 : decode cX0_init 4 = .ok (.aload_n 0, 1) := by decide +kernel
theorem dX0_init_5 : decode cX0_init 5 = .ok (.bipush 15, 2) := by decide +kernel
theorem dX0_init_7 : decode cX0_init 7 = .ok (.newarray .int, 2) := by decide +kernel
theorem dX0_init_9 : decode cX0_init 9 = .ok (.putfield 9, 3) := by decide +kernel
theorem dX0_init_12 : decode cX0_init 12 = .ok (.aload_n 0, 1) := by decide +kernel
theorem dX0_init_13 : decode cX0_init 13 = .ok (.bipush 15, 2) := by decide +kernel
theorem dX0_init_15 : decode cX0_init 15 = .ok (.newarray .int, 2) := by decide +kernel
theorem dX0_init_17 : decode cX0_init 17 = .ok (.putfield 15, 3) := by decide +kernel
theorem dX0_init_20 : decode cX0_init 20 = .ok (.return_, 1) := by decide +kernel
theorem dX0_append_0 : decode cX0_append 0 = .ok (.aload_n 0, 1) := by decide +kernel
theorem dX0_append_1 : decode cX0_append 1 = .ok (.getfield 18, 3) := by decide +kernel
theorem dX0_append_4 : decode cX0_append 4 = .ok (.bipush 15, 2) := by decide +kernel
theorem dX0_append_6 : decode cX0_append 6 = .ok (.if_icmp .lt 5, 3) := by decide +kernel
theorem dX0_append_9 : decode cX0_append 9 = .ok (.iconst 0, 1) := by decide +kernel
theorem dX0_append_10 : decode cX0_append 10 = .ok (.ireturn, 1) := by decide +kernel
theorem dX0_append_11 : decode cX0_append 11 = .ok (.aload_n 0, 1) := by decide +kernel
theorem dX0_append_12 : decode cX0_append 12 = .ok (.getfield 9, 3) := by decide +kernel
theorem dX0_append_15 : decode cX0_append 15 = .ok (.aload_n 0, 1) := by decide +kernel
theorem dX0_append_16 : decode cX0_append 16 = .ok (.getfield 18, 3) := by decide +kernel
theorem dX0_append_19 : decode cX0_append 19 = .ok (.iload_n 1, 1) := by decide +kernel
theorem dX0_append_20 : decode cX0_append 20 = .ok (.iastore, 1) := by decide +kernel
theorem dX0_append_21 : decode cX0_append 21 = .ok (.aload_n 0, 1) := by decide +kernel
theorem dX0_append_22 : decode cX0_append 22 = .ok (.getfield 15, 3) := by decide +kernel
theorem dX0_append_25 : decode cX0_append 25 = .ok (.aload_n 0, 1) := by decide +kernel
theorem dX0_append_26 : decode cX0_append 26 = .ok (.getfield 18, 3) := by decide +kernel
theorem dX0_append_29 : decode cX0_append 29 = .ok (.iload_n 2, 1) := by decide +kernel
theorem dX0_append_30 : decode cX0_append 30 = .ok (.iastore, 1) := by decide +kernel
theorem dX0_append_31 : decode cX0_append 31 = .ok (.aload_n 0, 1) := by decide +kernel
theorem dX0_append_32 : decode cX0_append 32 = .ok (.dup, 1) := by decide +kernel
theorem dX0_append_33 : decode cX0_append 33 = .ok (.getfield 18, 3) := by decide +kernel
theorem dX0_append_36 : decode cX0_append 36 = .ok (.iconst 1, 1) := by decide +kernel
theorem dX0_append_37 : decode cX0_append 37 = .ok (.iadd, 1) := by decide +kernel
theorem dX0_append_38 : decode cX0_append 38 = .ok (.putfield 18, 3) := by decide +kernel
theorem dX0_append_41 : decode cX0_append 41 = .ok (.iconst 1, 1) := by decide +kernel
theorem dX0_append_42 : decode cX0_append 42 = .ok (.ireturn, 1) := by decide +kernel
theorem dX0_firstWrong_0 : decode cX0_firstWrong 0 = .ok (.iconst 0, 1) := by decide +kernel
theorem dX0_firstWrong_1 : decode cX0_firstWrong 1 = .ok (.istore_n 2, 1) := by decide +kernel
theorem dX0_firstWrong_2 : decode cX0_firstWrong 2 = .ok (.iload_n 2, 1) := by decide +kernel
theorem dX0_firstWrong_3 : decode cX0_firstWrong 3 = .ok (.aload_n 0, 1) := by decide +kernel
theorem dX0_firstWrong_4 : decode cX0_firstWrong 4 = .ok (.getfield 18, 3) := by decide +kernel
theorem dX0_firstWrong_7 : decode cX0_firstWrong 7 = .ok (.if_icmp .ge 30, 3) := by decide +kernel
theorem dX0_firstWrong_10 : decode cX0_firstWrong 10 = .ok (.iload_n 1, 1) := by decide +kernel
theorem dX0_firstWrong_11 : decode cX0_firstWrong 11 = .ok (.aload_n 0, 1) := by decide +kernel
theorem dX0_firstWrong_12 : decode cX0_firstWrong 12 = .ok (.getfield 9, 3) := by decide +kernel
theorem dX0_firstWrong_15 : decode cX0_firstWrong 15 = .ok (.iload_n 2, 1) := by decide +kernel
theorem dX0_firstWrong_16 : decode cX0_firstWrong 16 = .ok (.iaload, 1) := by decide +kernel
theorem dX0_firstWrong_17 : decode cX0_firstWrong 17 = .ok (.ishr, 1) := by decide +kernel
theorem dX0_firstWrong_18 : decode cX0_firstWrong 18 = .ok (.iconst 1, 1) := by decide +kernel
theorem dX0_firstWrong_19 : decode cX0_firstWrong 19 = .ok (.iand, 1) := by decide +kernel
theorem dX0_firstWrong_20 : decode cX0_firstWrong 20 = .ok (.aload_n 0, 1) := by decide +kernel
theorem dX0_firstWrong_21 : decode cX0_firstWrong 21 = .ok (.getfield 15, 3) := by decide +kernel
theorem dX0_firstWrong_24 : decode cX0_firstWrong 24 = .ok (.iload_n 2, 1) := by decide +kernel
theorem dX0_firstWrong_25 : decode cX0_firstWrong 25 = .ok (.iaload, 1) := by decide +kernel
theorem dX0_firstWrong_26 : decode cX0_firstWrong 26 = .ok (.if_icmp .eq 5, 3) := by decide +kernel
theorem dX0_firstWrong_29 : decode cX0_firstWrong 29 = .ok (.iload_n 2, 1) := by decide +kernel
theorem dX0_firstWrong_30 : decode cX0_firstWrong 30 = .ok (.ireturn, 1) := by decide +kernel
theorem dX0_firstWrong_31 : decode cX0_firstWrong 31 = .ok (.iinc 2 1, 3) := by decide +kernel
theorem dX0_firstWrong_34 : decode cX0_firstWrong 34 = .ok (.goto (-32), 3) := by decide +kernel
theorem dX0_firstWrong_37 : decode cX0_firstWrong 37 = .ok (.iconst (-1), 1) := by decide +kernel
theorem dX0_firstWrong_38 : decode cX0_firstWrong 38 = .ok (.ireturn, 1) := by decide +kernel
theorem dX1_init_0 : decode cX1_init 0 = .ok (.aload_n 0, 1) := by decide +kernel
theorem dX1_init_1 : decode cX1_init 1 = .ok (.invokespecial 3, 3) := by decide +kernel
theorem dX1_init_4 : decode cX1_init 4 = .ok (.aload_n 0, 1) := by decide +kernel
theorem dX1_init_5 : decode cX1_init 5 = .ok (.bipush 8, 2) := by decide +kernel
theorem dX1_init_7 : decode cX1_init 7 = .ok (.newarray .int, 2) := by decide +kernel
theorem dX1_init_9 : decode cX1_init 9 = .ok (.putfield 9, 3) := by decide +kernel
theorem dX1_init_12 : decode cX1_init 12 = .ok (.aload_n 0, 1) := by decide +kernel
theorem dX1_init_13 : decode cX1_init 13 = .ok (.bipush 10, 2) := by decide +kernel
theorem dX1_init_15 : decode cX1_init 15 = .ok (.newarray .int, 2) := by decide +kernel
theorem dX1_init_17 : decode cX1_init 17 = .ok (.putfield 15, 3) := by decide +kernel
theorem dX1_init_20 : decode cX1_init 20 = .ok (.aload_n 0, 1) := by decide +kernel
theorem dX1_init_21 : decode cX1_init 21 = .ok (.bipush 10, 2) := by decide +kernel
theorem dX1_init_23 : decode cX1_init 23 = .ok (.newarray .int, 2) := by decide +kernel
theorem dX1_init_25 : decode cX1_init 25 = .ok (.putfield 18, 3) := by decide +kernel
theorem dX1_init_28 : decode cX1_init 28 = .ok (.aload_n 0, 1) := by decide +kernel
theorem dX1_init_29 : decode cX1_init 29 = .ok (.bipush 10, 2) := by decide +kernel
theorem dX1_init_31 : decode cX1_init 31 = .ok (.newarray .int, 2) := by decide +kernel
theorem dX1_init_33 : decode cX1_init 33 = .ok (.putfield 21, 3) := by decide +kernel
theorem dX1_init_36 : decode cX1_init 36 = .ok (.aload_n 0, 1) := by decide +kernel
theorem dX1_init_37 : decode cX1_init 37 = .ok (.bipush 10, 2) := by decide +kernel
theorem dX1_init_39 : decode cX1_init 39 = .ok (.newarray .int, 2) := by decide +kernel
theorem dX1_init_41 : decode cX1_init 41 = .ok (.putfield 24, 3) := by decide +kernel
theorem dX1_init_44 : decode cX1_init 44 = .ok (.aload_n 0, 1) := by decide +kernel
theorem dX1_init_45 : decode cX1_init 45 = .ok (.bipush 10, 2) := by decide +kernel
theorem dX1_init_47 : decode cX1_init 47 = .ok (.newarray .int, 2) := by decide +kernel
theorem dX1_init_49 : decode cX1_init 49 = .ok (.putfield 27, 3) := by decide +kernel
theorem dX1_init_52 : decode cX1_init 52 = .ok (.aload_n 0, 1) := by decide +kernel
theorem dX1_init_53 : decode cX1_init 53 = .ok (.bipush 10, 2) := by decide +kernel
theorem dX1_init_55 : decode cX1_init 55 = .ok (.newarray .int, 2) := by decide +kernel
theorem dX1_init_57 : decode cX1_init 57 = .ok (.putfield 30, 3) := by decide +kernel
theorem dX1_init_60 : decode cX1_init 60 = .ok (.aload_n 0, 1) := by decide +kernel
theorem dX1_init_61 : decode cX1_init 61 = .ok (.iconst 5, 1) := by decide +kernel
theorem dX1_init_62 : decode cX1_init 62 = .ok (.newarray .int, 2) := by decide +kernel
theorem dX1_init_64 : decode cX1_init 64 = .ok (.putfield 33, 3) := by decide +kernel
theorem dX1_init_67 : decode cX1_init 67 = .ok (.aload_n 0, 1) := by decide +kernel
theorem dX1_init_68 : decode cX1_init 68 = .ok (.sipush 256, 3) := by decide +kernel
theorem dX1_init_71 : decode cX1_init 71 = .ok (.newarray .int, 2) := by decide +kernel
theorem dX1_init_73 : decode cX1_init 73 = .ok (.putfield 36, 3) := by decide +kernel
theorem dX1_init_76 : decode cX1_init 76 = .ok (.return_, 1) := by decide +kernel
theorem dX1_clear_0 : decode cX1_clear 0 = .ok (.aload_n 0, 1) := by decide +kernel
theorem dX1_clear_1 : decode cX1_clear 1 = .ok (.iconst 0, 1) := by decide +kernel
theorem dX1_clear_2 : decode cX1_clear 2 = .ok (.putfield 39, 3) := by decide +kernel
theorem dX1_clear_5 : decode cX1_clear 5 = .ok (.aload_n 0, 1) := by decide +kernel
theorem dX1_clear_6 : decode cX1_clear 6 = .ok (.iconst 0, 1) := by decide +kernel
theorem dX1_clear_7 : decode cX1_clear 7 = .ok (.putfield 43, 3) := by decide +kernel
theorem dX1_clear_10 : decode cX1_clear 10 = .ok (.aload_n 0, 1) := by decide +kernel
theorem dX1_clear_11 : decode cX1_clear 11 = .ok (.iconst 0, 1) := by decide +kernel
theorem dX1_clear_12 : decode cX1_clear 12 = .ok (.putfield 47, 3) := by decide +kernel
theorem dX1_clear_15 : decode cX1_clear 15 = .ok (.aload_n 0, 1) := by decide +kernel
theorem dX1_clear_16 : decode cX1_clear 16 = .ok (.iconst 0, 1) := by decide +kernel
theorem dX1_clear_17 : decode cX1_clear 17 = .ok (.putfield 50, 3) := by decide +kernel
theorem dX1_clear_20 : decode cX1_clear 20 = .ok (.aload_n 0, 1) := by decide +kernel
theorem dX1_clear_21 : decode cX1_clear 21 = .ok (.iconst 0, 1) := by decide +kernel
theorem dX1_clear_22 : decode cX1_clear 22 = .ok (.putfield 53, 3) := by decide +kernel
theorem dX1_clear_25 : decode cX1_clear 25 = .ok (.aload_n 0, 1) := by decide +kernel
theorem dX1_clear_26 : decode cX1_clear 26 = .ok (.iconst 0, 1) := by decide +kernel
theorem dX1_clear_27 : decode cX1_clear 27 = .ok (.putfield 56, 3) := by decide +kernel
theorem dX1_clear_30 : decode cX1_clear 30 = .ok (.aload_n 0, 1) := by decide +kernel
theorem dX1_clear_31 : decode cX1_clear 31 = .ok (.iconst 0, 1) := by decide +kernel
theorem dX1_clear_32 : decode cX1_clear 32 = .ok (.putfield 59, 3) := by decide +kernel
theorem dX1_clear_35 : decode cX1_clear 35 = .ok (.aload_n 0, 1) := by decide +kernel
theorem dX1_clear_36 : decode cX1_clear 36 = .ok (.iconst 0, 1) := by decide +kernel
theorem dX1_clear_37 : decode cX1_clear 37 = .ok (.putfield 62, 3) := by decide +kernel
theorem dX1_clear_40 : decode cX1_clear 40 = .ok (.return_, 1) := by decide +kernel
theorem dX1_isIdea_0 : decode cX1_isIdea 0 = .ok (.iload_n 1, 1) := by decide +kernel
theorem dX1_isIdea_1 : decode cX1_isIdea 1 = .ok (.ifCond .lt 15, 3) := by decide +kernel
theorem dX1_isIdea_4 : decode cX1_isIdea 4 = .ok (.iload_n 1, 1) := by decide +kernel
theorem dX1_isIdea_5 : decode cX1_isIdea 5 = .ok (.aload_n 0, 1) := by decide +kernel
theorem dX1_isIdea_6 : decode cX1_isIdea 6 = .ok (.getfield 50, 3) := by decide +kernel
theorem dX1_isIdea_9 : decode cX1_isIdea 9 = .ok (.if_icmp .ge 7, 3) := by decide +kernel
theorem dX1_isIdea_12 : decode cX1_isIdea 12 = .ok (.iconst 1, 1) := by decide +kernel
theorem dX1_isIdea_13 : decode cX1_isIdea 13 = .ok (.goto 4, 3) := by decide +kernel
theorem dX1_isIdea_16 : decode cX1_isIdea 16 = .ok (.iconst 0, 1) := by decide +kernel
theorem dX1_isIdea_17 : decode cX1_isIdea 17 = .ok (.ireturn, 1) := by decide +kernel
theorem dX1_isTraveller_0 : decode cX1_isTraveller 0 = .ok (.iload_n 1, 1) := by decide +kernel
theorem dX1_isTraveller_1 : decode cX1_isTraveller 1 = .ok (.ifCond .lt 15, 3) := by decide +kernel
theorem dX1_isTraveller_4 : decode cX1_isTraveller 4 = .ok (.iload_n 1, 1) := by decide +kernel
theorem dX1_isTraveller_5 : decode cX1_isTraveller 5 = .ok (.aload_n 0, 1) := by decide +kernel
theorem dX1_isTraveller_6 : decode cX1_isTraveller 6 = .ok (.getfield 62, 3) := by decide +kernel
theorem dX1_isTraveller_9 : decode cX1_isTraveller 9 = .ok (.if_icmp .ge 7, 3) := by decide +kernel
theorem dX1_isTraveller_12 : decode cX1_isTraveller 12 = .ok (.iconst 1, 1) := by decide +kernel
theorem dX1_isTraveller_13 : decode cX1_isTraveller 13 = .ok (.goto 4, 3) := by decide +kernel
theorem dX1_isTraveller_16 : decode cX1_isTraveller 16 = .ok (.iconst 0, 1) := by decide +kernel
theorem dX1_isTraveller_17 : decode cX1_isTraveller 17 = .ok (.ireturn, 1) := by decide +kernel
theorem dX1_isSet_0 : decode cX1_isSet 0 = .ok (.iload_n 1, 1) := by decide +kernel
theorem dX1_isSet_1 : decode cX1_isSet 1 = .ok (.ifCond .lt 17, 3) := by decide +kernel
theorem dX1_isSet_4 : decode cX1_isSet 4 = .ok (.iload_n 1, 1) := by decide +kernel
theorem dX1_isSet_5 : decode cX1_isSet 5 = .ok (.iconst 1, 1) := by decide +kernel
theorem dX1_isSet_6 : decode cX1_isSet 6 = .ok (.aload_n 0, 1) := by decide +kernel
theorem dX1_isSet_7 : decode cX1_isSet 7 = .ok (.getfield 50, 3) := by decide +kernel
theorem dX1_isSet_10 : decode cX1_isSet 10 = .ok (.ishl, 1) := by decide +kernel
theorem dX1_isSet_11 : decode cX1_isSet 11 = .ok (.if_icmp .ge 7, 3) := by decide +kernel
theorem dX1_isSet_14 : decode cX1_isSet 14 = .ok (.iconst 1, 1) := by decide +kernel
theorem dX1_isSet_15 : decode cX1_isSet 15 = .ok (.goto 4, 3) := by decide +kernel
theorem dX1_isSet_18 : decode cX1_isSet 18 = .ok (.iconst 0, 1) := by decide +kernel
theorem dX1_isSet_19 : decode cX1_isSet 19 = .ok (.ireturn, 1) := by decide +kernel
theorem dX1_findAllFrom_0 : decode cX1_findAllFrom 0 = .ok (.iconst 1, 1) := by decide +kernel
theorem dX1_findAllFrom_1 : decode cX1_findAllFrom 1 = .ok (.aload_n 0, 1) := by decide +kernel
theorem dX1_findAllFrom_2 : decode cX1_findAllFrom 2 = .ok (.getfield 50, 3) := by decide +kernel
theorem dX1_findAllFrom_5 : decode cX1_findAllFrom 5 = .ok (.ishl, 1) := by decide +kernel
theorem dX1_findAllFrom_6 : decode cX1_findAllFrom 6 = .ok (.istore_n 1, 1) := by decide +kernel
theorem dX1_findAllFrom_7 : decode cX1_findAllFrom 7 = .ok (.iconst 0, 1) := by decide +kernel
theorem dX1_findAllFrom_8 : decode cX1_findAllFrom 8 = .ok (.istore_n 2, 1) := by decide +kernel
theorem dX1_findAllFrom_9 : decode cX1_findAllFrom 9 = .ok (.iload_n 2, 1) := by decide +kernel
theorem dX1_findAllFrom_10 : decode cX1_findAllFrom 10 = .ok (.iload_n 1, 1) := by decide +kernel
theorem dX1_findAllFrom_11 : decode cX1_findAllFrom 11 = .ok (.if_icmp .ge 39, 3) := by decide +kernel
theorem dX1_findAllFrom_14 : decode cX1_findAllFrom 14 = .ok (.aload_n 0, 1) := by decide +kernel
theorem dX1_findAllFrom_15 : decode cX1_findAllFrom 15 = .ok (.getfield 36, 3) := by decide +kernel
theorem dX1_findAllFrom_18 : decode cX1_findAllFrom 18 = .ok (.iload_n 2, 1) := by decide +kernel
theorem dX1_findAllFrom_19 : decode cX1_findAllFrom 19 = .ok (.aload_n 0, 1) := by decide +kernel
theorem dX1_findAllFrom_20 : decode cX1_findAllFrom 20 = .ok (.iload_n 2, 1) := by decide +kernel
theorem dX1_findAllFrom_21 : decode cX1_findAllFrom 21 = .ok (.ifCond .ne 7, 3) := by decide +kernel
theorem dX1_findAllFrom_24 : decode cX1_findAllFrom 24 = .ok (.iconst 0, 1) := by decide +kernel
theorem dX1_findAllFrom_25 : decode cX1_findAllFrom 25 = .ok (.goto 15, 3) := by decide +kernel
theorem dX1_findAllFrom_28 : decode cX1_findAllFrom 28 = .ok (.iload_n 2, 1) := by decide +kernel
theorem dX1_findAllFrom_29 : decode cX1_findAllFrom 29 = .ok (.aload_n 0, 1) := by decide +kernel
theorem dX1_findAllFrom_30 : decode cX1_findAllFrom 30 = .ok (.getfield 36, 3) := by decide +kernel
theorem dX1_findAllFrom_33 : decode cX1_findAllFrom 33 = .ok (.iload_n 2, 1) := by decide +kernel
theorem dX1_findAllFrom_34 : decode cX1_findAllFrom 34 = .ok (.iload_n 2, 1) := by decide +kernel
theorem dX1_findAllFrom_35 : decode cX1_findAllFrom 35 = .ok (.iconst 1, 1) := by decide +kernel
theorem dX1_findAllFrom_36 : decode cX1_findAllFrom 36 = .ok (.isub, 1) := by decide +kernel
theorem dX1_findAllFrom_37 : decode cX1_findAllFrom 37 = .ok (.iand, 1) := by decide +kernel
theorem dX1_findAllFrom_38 : decode cX1_findAllFrom 38 = .ok (.iaload, 1) := by decide +kernel
theorem dX1_findAllFrom_39 : decode cX1_findAllFrom 39 = .ok (.ior, 1) := by decide +kernel
theorem dX1_findAllFrom_40 : decode cX1_findAllFrom 40 = .ok (.invokevirtual 65, 3) := by decide +kernel
theorem dX1_findAllFrom_43 : decode cX1_findAllFrom 43 = .ok (.iastore, 1) := by decide +kernel
theorem dX1_findAllFrom_44 : decode cX1_findAllFrom 44 = .ok (.iinc 2 1, 3) := by decide +kernel
theorem dX1_findAllFrom_47 : decode cX1_findAllFrom 47 = .ok (.goto (-38), 3) := by decide +kernel
theorem dX1_findAllFrom_50 : decode cX1_findAllFrom 50 = .ok (.return_, 1) := by decide +kernel
theorem dX1_joined_0 : decode cX1_joined 0 = .ok (.iload_n 1, 1) := by decide +kernel
theorem dX1_joined_1 : decode cX1_joined 1 = .ok (.istore_n 2, 1) := by decide +kernel
theorem dX1_joined_2 : decode cX1_joined 2 = .ok (.iconst 0, 1) := by decide +kernel
theorem dX1_joined_3 : decode cX1_joined 3 = .ok (.istore_n 3, 1) := by decide +kernel
theorem dX1_joined_4 : decode cX1_joined 4 = .ok (.iload_n 3, 1) := by decide +kernel
theorem dX1_joined_5 : decode cX1_joined 5 = .ok (.bipush 8, 2) := by decide +kernel
theorem dX1_joined_7 : decode cX1_joined 7 = .ok (.if_icmp .ge 81, 3) := by decide +kernel
theorem dX1_joined_10 : decode cX1_joined 10 = .ok (.iload_n 2, 1) := by decide +kernel
theorem dX1_joined_11 : decode cX1_joined 11 = .ok (.istore 4, 2) := by decide +kernel
theorem dX1_joined_13 : decode cX1_joined 13 = .ok (.iconst 0, 1) := by decide +kernel
theorem dX1_joined_14 : decode cX1_joined 14 = .ok (.istore 5, 2) := by decide +kernel
theorem dX1_joined_16 : decode cX1_joined 16 = .ok (.iload 5, 2) := by decide +kernel
theorem dX1_joined_18 : decode cX1_joined 18 = .ok (.aload_n 0, 1) := by decide +kernel
theorem dX1_joined_19 : decode cX1_joined 19 = .ok (.getfield 53, 3) := by decide +kernel
theorem dX1_joined_22 : decode cX1_joined 22 = .ok (.if_icmp .ge 51, 3) := by decide +kernel
theorem dX1_joined_25 : decode cX1_joined 25 = .ok (.iconst 1, 1) := by decide +kernel
theorem dX1_joined_26 : decode cX1_joined 26 = .ok (.aload_n 0, 1) := by decide +kernel
theorem dX1_joined_27 : decode cX1_joined 27 = .ok (.getfield 15, 3) := by decide +kernel
theorem dX1_joined_30 : decode cX1_joined 30 = .ok (.iload 5, 2) := by decide +kernel
theorem dX1_joined_32 : decode cX1_joined 32 = .ok (.iaload, 1) := by decide +kernel
theorem dX1_joined_33 : decode cX1_joined 33 = .ok (.ishl, 1) := by decide +kernel
theorem dX1_joined_34 : decode cX1_joined 34 = .ok (.iconst 1, 1) := by decide +kernel
theorem dX1_joined_35 : decode cX1_joined 35 = .ok (.aload_n 0, 1) := by decide +kernel
theorem dX1_joined_36 : decode cX1_joined 36 = .ok (.getfield 18, 3) := by decide +kernel
theorem dX1_joined_39 : decode cX1_joined 39 = .ok (.iload 5, 2) := by decide +kernel
theorem dX1_joined_41 : decode cX1_joined 41 = .ok (.iaload, 1) := by decide +kernel
theorem dX1_joined_42 : decode cX1_joined 42 = .ok (.ishl, 1) := by decide +kernel
theorem dX1_joined_43 : decode cX1_joined 43 = .ok (.ior, 1) := by decide +kernel
theorem dX1_joined_44 : decode cX1_joined 44 = .ok (.istore 6, 2) := by decide +kernel
theorem dX1_joined_46 : decode cX1_joined 46 = .ok (.iload_n 2, 1) := by decide +kernel
theorem dX1_joined_47 : decode cX1_joined 47 = .ok (.iload 6, 2) := by decide +kernel
theorem dX1_joined_49 : decode cX1_joined 49 = .ok (.iand, 1) := by decide +kernel
theorem dX1_joined_50 : decode cX1_joined 50 = .ok (.iload 6, 2) := by decide +kernel
theorem dX1_joined_52 : decode cX1_joined 52 = .ok (.if_icmp .ne 15, 3) := by decide +kernel
theorem dX1_joined_55 : decode cX1_joined 55 = .ok (.iload_n 2, 1) := by decide +kernel
theorem dX1_joined_56 : decode cX1_joined 56 = .ok (.iconst 1, 1) := by decide +kernel
theorem dX1_joined_57 : decode cX1_joined 57 = .ok (.aload_n 0, 1) := by decide +kernel
theorem dX1_joined_58 : decode cX1_joined 58 = .ok (.getfield 21, 3) := by decide +kernel
theorem dX1_joined_61 : decode cX1_joined 61 = .ok (.iload 5, 2) := by decide +kernel
theorem dX1_joined_63 : decode cX1_joined 63 = .ok (.iaload, 1) := by decide +kernel
theorem dX1_joined_64 : decode cX1_joined 64 = .ok (.ishl, 1) := by decide +kernel
theorem dX1_joined_65 : decode cX1_joined 65 = .ok (.ior, 1) := by decide +kernel
theorem dX1_joined_66 : decode cX1_joined 66 = .ok (.istore_n 2, 1) := by decide +kernel
theorem dX1_joined_67 : decode cX1_joined 67 = .ok (.iinc 5 1, 3) := by decide +kernel
theorem dX1_joined_70 : decode cX1_joined 70 = .ok (.goto (-54), 3) := by decide +kernel
theorem dX1_joined_73 : decode cX1_joined 73 = .ok (.iload_n 2, 1) := by decide +kernel
theorem dX1_joined_74 : decode cX1_joined 74 = .ok (.iload 4, 2) := by decide +kernel
theorem dX1_joined_76 : decode cX1_joined 76 = .ok (.if_icmp .ne 6, 3) := by decide +kernel
theorem dX1_joined_79 : decode cX1_joined 79 = .ok (.goto 9, 3) := by decide +kernel
theorem dX1_joined_82 : decode cX1_joined 82 = .ok (.iinc 3 1, 3) := by decide +kernel
theorem dX1_joined_85 : decode cX1_joined 85 = .ok (.goto (-81), 3) := by decide +kernel
theorem dX1_joined_88 : decode cX1_joined 88 = .ok (.iload_n 2, 1) := by decide +kernel
theorem dX1_joined_89 : decode cX1_joined 89 = .ok (.ireturn, 1) := by decide +kernel
theorem dX1_allFrom_0 : decode cX1_allFrom 0 = .ok (.aload_n 0, 1) := by decide +kernel
theorem dX1_allFrom_1 : decode cX1_allFrom 1 = .ok (.iload_n 1, 1) := by decide +kernel
theorem dX1_allFrom_2 : decode cX1_allFrom 2 = .ok (.invokevirtual 69, 3) := by decide +kernel
theorem dX1_allFrom_5 : decode cX1_allFrom 5 = .ok (.ifCond .eq 12, 3) := by decide +kernel
theorem dX1_allFrom_8 : decode cX1_allFrom 8 = .ok (.aload_n 0, 1) := by decide +kernel
theorem dX1_allFrom_9 : decode cX1_allFrom 9 = .ok (.getfield 36, 3) := by decide +kernel
theorem dX1_allFrom_12 : decode cX1_allFrom 12 = .ok (.iload_n 1, 1) := by decide +kernel
theorem dX1_allFrom_13 : decode cX1_allFrom 13 = .ok (.iaload, 1) := by decide +kernel
theorem dX1_allFrom_14 : decode cX1_allFrom 14 = .ok (.goto 4, 3) := by decide +kernel
theorem dX1_allFrom_17 : decode cX1_allFrom 17 = .ok (.iconst 0, 1) := by decide +kernel
theorem dX1_allFrom_18 : decode cX1_allFrom 18 = .ok (.ireturn, 1) := by decide +kernel
theorem dX1_sizeOf_0 : decode cX1_sizeOf 0 = .ok (.iconst 0, 1) := by decide +kernel
theorem dX1_sizeOf_1 : decode cX1_sizeOf 1 = .ok (.istore_n 2, 1) := by decide +kernel
theorem dX1_sizeOf_2 : decode cX1_sizeOf 2 = .ok (.iconst 0, 1) := by decide +kernel
theorem dX1_sizeOf_3 : decode cX1_sizeOf 3 = .ok (.istore_n 3, 1) := by decide +kernel
theorem dX1_sizeOf_4 : decode cX1_sizeOf 4 = .ok (.iload_n 3, 1) := by decide +kernel
theorem dX1_sizeOf_5 : decode cX1_sizeOf 5 = .ok (.aload_n 0, 1) := by decide +kernel
theorem dX1_sizeOf_6 : decode cX1_sizeOf 6 = .ok (.getfield 50, 3) := by decide +kernel
theorem dX1_sizeOf_9 : decode cX1_sizeOf 9 = .ok (.if_icmp .ge 30, 3) := by decide +kernel
theorem dX1_sizeOf_12 : decode cX1_sizeOf 12 = .ok (.iload_n 2, 1) := by decide +kernel
theorem dX1_sizeOf_13 : decode cX1_sizeOf 13 = .ok (.iload_n 1, 1) := by decide +kernel
theorem dX1_sizeOf_14 : decode cX1_sizeOf 14 = .ok (.iconst 1, 1) := by decide +kernel
theorem dX1_sizeOf_15 : decode cX1_sizeOf 15 = .ok (.iload_n 3, 1) := by decide +kernel
theorem dX1_sizeOf_16 : decode cX1_sizeOf 16 = .ok (.ishl, 1) := by decide +kernel
theorem dX1_sizeOf_17 : decode cX1_sizeOf 17 = .ok (.iand, 1) := by decide +kernel
theorem dX1_sizeOf_18 : decode cX1_sizeOf 18 = .ok (.ifCond .eq 12, 3) := by decide +kernel
theorem dX1_sizeOf_21 : decode cX1_sizeOf 21 = .ok (.aload_n 0, 1) := by decide +kernel
theorem dX1_sizeOf_22 : decode cX1_sizeOf 22 = .ok (.getfield 9, 3) := by decide +kernel
theorem dX1_sizeOf_25 : decode cX1_sizeOf 25 = .ok (.iload_n 3, 1) := by decide +kernel
theorem dX1_sizeOf_26 : decode cX1_sizeOf 26 = .ok (.iaload, 1) := by decide +kernel
theorem dX1_sizeOf_27 : decode cX1_sizeOf 27 = .ok (.goto 4, 3) := by decide +kernel
theorem dX1_sizeOf_30 : decode cX1_sizeOf 30 = .ok (.iconst 0, 1) := by decide +kernel
theorem dX1_sizeOf_31 : decode cX1_sizeOf 31 = .ok (.iadd, 1) := by decide +kernel
theorem dX1_sizeOf_32 : decode cX1_sizeOf 32 = .ok (.istore_n 2, 1) := by decide +kernel
theorem dX1_sizeOf_33 : decode cX1_sizeOf 33 = .ok (.iinc 3 1, 3) := by decide +kernel
theorem dX1_sizeOf_36 : decode cX1_sizeOf 36 = .ok (.goto (-32), 3) := by decide +kernel
theorem dX1_sizeOf_39 : decode cX1_sizeOf 39 = .ok (.iload_n 2, 1) := by decide +kernel
theorem dX1_sizeOf_40 : decode cX1_sizeOf 40 = .ok (.ireturn, 1) := by decide +kernel
theorem dX1_isStuck_0 : decode cX1_isStuck 0 = .ok (.aload_n 0, 1) := by decide +kernel
theorem dX1_isStuck_1 : decode cX1_isStuck 1 = .ok (.iload_n 1, 1) := by decide +kernel
theorem dX1_isStuck_2 : decode cX1_isStuck 2 = .ok (.invokevirtual 73, 3) := by decide +kernel
theorem dX1_isStuck_5 : decode cX1_isStuck 5 = .ok (.aload_n 0, 1) := by decide +kernel
theorem dX1_isStuck_6 : decode cX1_isStuck 6 = .ok (.getfield 43, 3) := by decide +kernel
theorem dX1_isStuck_9 : decode cX1_isStuck 9 = .ok (.if_icmp .le 7, 3) := by decide +kernel
theorem dX1_isStuck_12 : decode cX1_isStuck 12 = .ok (.iconst 1, 1) := by decide +kernel
theorem dX1_isStuck_13 : decode cX1_isStuck 13 = .ok (.goto 4, 3) := by decide +kernel
theorem dX1_isStuck_16 : decode cX1_isStuck 16 = .ok (.iconst 0, 1) := by decide +kernel
theorem dX1_isStuck_17 : decode cX1_isStuck 17 = .ok (.ireturn, 1) := by decide +kernel
theorem dX1_duty_0 : decode cX1_duty 0 = .ok (.iconst 0, 1) := by decide +kernel
theorem dX1_duty_1 : decode cX1_duty 1 = .ok (.istore_n 3, 1) := by decide +kernel
theorem dX1_duty_2 : decode cX1_duty 2 = .ok (.iconst 0, 1) := by decide +kernel
theorem dX1_duty_3 : decode cX1_duty 3 = .ok (.istore 4, 2) := by decide +kernel
theorem dX1_duty_5 : decode cX1_duty 5 = .ok (.iload 4, 2) := by decide +kernel
theorem dX1_duty_7 : decode cX1_duty 7 = .ok (.aload_n 0, 1) := by decide +kernel
theorem dX1_duty_8 : decode cX1_duty 8 = .ok (.getfield 50, 3) := by decide +kernel
theorem dX1_duty_11 : decode cX1_duty 11 = .ok (.if_icmp .ge 76, 3) := by decide +kernel
theorem dX1_duty_14 : decode cX1_duty 14 = .ok (.iconst 1, 1) := by decide +kernel
theorem dX1_duty_15 : decode cX1_duty 15 = .ok (.iload 4, 2) := by decide +kernel
theorem dX1_duty_17 : decode cX1_duty 17 = .ok (.ishl, 1) := by decide +kernel
theorem dX1_duty_18 : decode cX1_duty 18 = .ok (.istore 5, 2) := by decide +kernel
theorem dX1_duty_20 : decode cX1_duty 20 = .ok (.iload_n 1, 1) := by decide +kernel
theorem dX1_duty_21 : decode cX1_duty 21 = .ok (.iload_n 2, 1) := by decide +kernel
theorem dX1_duty_22 : decode cX1_duty 22 = .ok (.iconst (-1), 1) := by decide +kernel
theorem dX1_duty_23 : decode cX1_duty 23 = .ok (.ixor, 1) := by decide +kernel
theorem dX1_duty_24 : decode cX1_duty 24 = .ok (.iand, 1) := by decide +kernel
theorem dX1_duty_25 : decode cX1_duty 25 = .ok (.iload 5, 2) := by decide +kernel
theorem dX1_duty_27 : decode cX1_duty 27 = .ok (.iand, 1) := by decide +kernel
theorem dX1_duty_28 : decode cX1_duty 28 = .ok (.ifCond .eq 53, 3) := by decide +kernel
theorem dX1_duty_31 : decode cX1_duty 31 = .ok (.aload_n 0, 1) := by decide +kernel
theorem dX1_duty_32 : decode cX1_duty 32 = .ok (.iload_n 1, 1) := by decide +kernel
theorem dX1_duty_33 : decode cX1_duty 33 = .ok (.iload 5, 2) := by decide +kernel
theorem dX1_duty_35 : decode cX1_duty 35 = .ok (.iconst (-1), 1) := by decide +kernel
theorem dX1_duty_36 : decode cX1_duty 36 = .ok (.ixor, 1) := by decide +kernel
theorem dX1_duty_37 : decode cX1_duty 37 = .ok (.iand, 1) := by decide +kernel
theorem dX1_duty_38 : decode cX1_duty 38 = .ok (.invokevirtual 76, 3) := by decide +kernel
theorem dX1_duty_41 : decode cX1_duty 41 = .ok (.iload 5, 2) := by decide +kernel
theorem dX1_duty_43 : decode cX1_duty 43 = .ok (.iand, 1) := by decide +kernel
theorem dX1_duty_44 : decode cX1_duty 44 = .ok (.ifCond .eq 7, 3) := by decide +kernel
theorem dX1_duty_47 : decode cX1_duty 47 = .ok (.iconst 1, 1) := by decide +kernel
theorem dX1_duty_48 : decode cX1_duty 48 = .ok (.goto 4, 3) := by decide +kernel
theorem dX1_duty_51 : decode cX1_duty 51 = .ok (.iconst 0, 1) := by decide +kernel
theorem dX1_duty_52 : decode cX1_duty 52 = .ok (.istore 6, 2) := by decide +kernel
theorem dX1_duty_54 : decode cX1_duty 54 = .ok (.iload_n 3, 1) := by decide +kernel
theorem dX1_duty_55 : decode cX1_duty 55 = .ok (.iload 6, 2) := by decide +kernel
theorem dX1_duty_57 : decode cX1_duty 57 = .ok (.ifCond .eq 15, 3) := by decide +kernel
theorem dX1_duty_60 : decode cX1_duty 60 = .ok (.aload_n 0, 1) := by decide +kernel
theorem dX1_duty_61 : decode cX1_duty 61 = .ok (.getfield 9, 3) := by decide +kernel
theorem dX1_duty_64 : decode cX1_duty 64 = .ok (.iload 4, 2) := by decide +kernel
theorem dX1_duty_66 : decode cX1_duty 66 = .ok (.iaload, 1) := by decide +kernel
theorem dX1_duty_67 : decode cX1_duty 67 = .ok (.iconst 2, 1) := by decide +kernel
theorem dX1_duty_68 : decode cX1_duty 68 = .ok (.idiv, 1) := by decide +kernel
theorem dX1_duty_69 : decode cX1_duty 69 = .ok (.goto 10, 3) := by decide +kernel
theorem dX1_duty_72 : decode cX1_duty 72 = .ok (.aload_n 0, 1) := by decide +kernel
theorem dX1_duty_73 : decode cX1_duty 73 = .ok (.getfield 9, 3) := by decide +kernel
theorem dX1_duty_76 : decode cX1_duty 76 = .ok (.iload 4, 2) := by decide +kernel
theorem dX1_duty_78 : decode cX1_duty 78 = .ok (.iaload, 1) := by decide +kernel
theorem dX1_duty_79 : decode cX1_duty 79 = .ok (.iadd, 1) := by decide +kernel
theorem dX1_duty_80 : decode cX1_duty 80 = .ok (.istore_n 3, 1) := by decide +kernel
theorem dX1_duty_81 : decode cX1_duty 81 = .ok (.iinc 4 1, 3) := by decide +kernel
theorem dX1_duty_84 : decode cX1_duty 84 = .ok (.goto (-79), 3) := by decide +kernel
theorem dX1_duty_87 : decode cX1_duty 87 = .ok (.iload_n 3, 1) := by decide +kernel
theorem dX1_duty_88 : decode cX1_duty 88 = .ok (.ireturn, 1) := by decide +kernel
theorem dX1_quickest_0 : decode cX1_quickest 0 = .ok (.iconst (-1), 1) := by decide +kernel
theorem dX1_quickest_1 : decode cX1_quickest 1 = .ok (.istore_n 3, 1) := by decide +kernel
theorem dX1_quickest_2 : decode cX1_quickest 2 = .ok (.iconst 0, 1) := by decide +kernel
theorem dX1_quickest_3 : decode cX1_quickest 3 = .ok (.istore 4, 2) := by decide +kernel
theorem dX1_quickest_5 : decode cX1_quickest 5 = .ok (.iload 4, 2) := by decide +kernel
theorem dX1_quickest_7 : decode cX1_quickest 7 = .ok (.aload_n 0, 1) := by decide +kernel
theorem dX1_quickest_8 : decode cX1_quickest 8 = .ok (.getfield 56, 3) := by decide +kernel
theorem dX1_quickest_11 : decode cX1_quickest 11 = .ok (.if_icmp .ge 67, 3) := by decide +kernel
theorem dX1_quickest_14 : decode cX1_quickest 14 = .ok (.aload_n 0, 1) := by decide +kernel
theorem dX1_quickest_15 : decode cX1_quickest 15 = .ok (.getfield 24, 3) := by decide +kernel
theorem dX1_quickest_18 : decode cX1_quickest 18 = .ok (.iload 4, 2) := by decide +kernel
theorem dX1_quickest_20 : decode cX1_quickest 20 = .ok (.iaload, 1) := by decide +kernel
theorem dX1_quickest_21 : decode cX1_quickest 21 = .ok (.iload_n 1, 1) := by decide +kernel
theorem dX1_quickest_22 : decode cX1_quickest 22 = .ok (.if_icmp .ne 18, 3) := by decide +kernel
theorem dX1_quickest_25 : decode cX1_quickest 25 = .ok (.aload_n 0, 1) := by decide +kernel
theorem dX1_quickest_26 : decode cX1_quickest 26 = .ok (.getfield 27, 3) := by decide +kernel
theorem dX1_quickest_29 : decode cX1_quickest 29 = .ok (.iload 4, 2) := by decide +kernel
theorem dX1_quickest_31 : decode cX1_quickest 31 = .ok (.iaload, 1) := by decide +kernel
theorem dX1_quickest_32 : decode cX1_quickest 32 = .ok (.iload_n 2, 1) := by decide +kernel
theorem dX1_quickest_33 : decode cX1_quickest 33 = .ok (.if_icmp .ne 7, 3) := by decide +kernel
theorem dX1_quickest_36 : decode cX1_quickest 36 = .ok (.iconst 1, 1) := by decide +kernel
theorem dX1_quickest_37 : decode cX1_quickest 37 = .ok (.goto 4, 3) := by decide +kernel
theorem dX1_quickest_40 : decode cX1_quickest 40 = .ok (.iconst 0, 1) := by decide +kernel
theorem dX1_quickest_41 : decode cX1_quickest 41 = .ok (.istore 5, 2) := by decide +kernel
theorem dX1_quickest_43 : decode cX1_quickest 43 = .ok (.iload 5, 2) := by decide +kernel
theorem dX1_quickest_45 : decode cX1_quickest 45 = .ok (.ifCond .eq 27, 3) := by decide +kernel
theorem dX1_quickest_48 : decode cX1_quickest 48 = .ok (.iload_n 3, 1) := by decide +kernel
theorem dX1_quickest_49 : decode cX1_quickest 49 = .ok (.iconst (-1), 1) := by decide +kernel
theorem dX1_quickest_50 : decode cX1_quickest 50 = .ok (.if_icmp .eq 14, 3) := by decide +kernel
theorem dX1_quickest_53 : decode cX1_quickest 53 = .ok (.aload_n 0, 1) := by decide +kernel
theorem dX1_quickest_54 : decode cX1_quickest 54 = .ok (.getfield 30, 3) := by decide +kernel
theorem dX1_quickest_57 : decode cX1_quickest 57 = .ok (.iload 4, 2) := by decide +kernel
theorem dX1_quickest_59 : decode cX1_quickest 59 = .ok (.iaload, 1) := by decide +kernel
theorem dX1_quickest_60 : decode cX1_quickest 60 = .ok (.iload_n 3, 1) := by decide +kernel
theorem dX1_quickest_61 : decode cX1_quickest 61 = .ok (.if_icmp .ge 11, 3) := by decide +kernel
theorem dX1_quickest_64 : decode cX1_quickest 64 = .ok (.aload_n 0, 1) := by decide +kernel
theorem dX1_quickest_65 : decode cX1_quickest 65 = .ok (.getfield 30, 3) := by decide +kernel
theorem dX1_quickest_68 : decode cX1_quickest 68 = .ok (.iload 4, 2) := by decide +kernel
theorem dX1_quickest_70 : decode cX1_quickest 70 = .ok (.iaload, 1) := by decide +kernel
theorem dX1_quickest_71 : decode cX1_quickest 71 = .ok (.istore_n 3, 1) := by decide +kernel
theorem dX1_quickest_72 : decode cX1_quickest 72 = .ok (.iinc 4 1, 3) := by decide +kernel
theorem dX1_quickest_75 : decode cX1_quickest 75 = .ok (.goto (-70), 3) := by decide +kernel
theorem dX1_quickest_78 : decode cX1_quickest 78 = .ok (.iload_n 3, 1) := by decide +kernel
theorem dX1_quickest_79 : decode cX1_quickest 79 = .ok (.ireturn, 1) := by decide +kernel
theorem dX1_findMinutes_0 : decode cX1_findMinutes 0 = .ok (.iconst 0, 1) := by decide +kernel
theorem dX1_findMinutes_1 : decode cX1_findMinutes 1 = .ok (.istore_n 3, 1) := by decide +kernel
theorem dX1_findMinutes_2 : decode cX1_findMinutes 2 = .ok (.iload_n 3, 1) := by decide +kernel
theorem dX1_findMinutes_3 : decode cX1_findMinutes 3 = .ok (.bipush 8, 2) := by decide +kernel
theorem dX1_findMinutes_5 : decode cX1_findMinutes 5 = .ok (.if_icmp .ge 22, 3) := by decide +kernel
theorem dX1_findMinutes_8 : decode cX1_findMinutes 8 = .ok (.aload_n 2, 1) := by decide +kernel
theorem dX1_findMinutes_9 : decode cX1_findMinutes 9 = .ok (.iload_n 3, 1) := by decide +kernel
theorem dX1_findMinutes_10 : decode cX1_findMinutes 10 = .ok (.iload_n 3, 1) := by decide +kernel
theorem dX1_findMinutes_11 : decode cX1_findMinutes 11 = .ok (.iload_n 1, 1) := by decide +kernel
theorem dX1_findMinutes_12 : decode cX1_findMinutes 12 = .ok (.if_icmp .ne 7, 3) := by decide +kernel
theorem dX1_findMinutes_15 : decode cX1_findMinutes 15 = .ok (.iconst 0, 1) := by decide +kernel
theorem dX1_findMinutes_16 : decode cX1_findMinutes 16 = .ok (.goto 4, 3) := by decide +kernel
theorem dX1_findMinutes_19 : decode cX1_findMinutes 19 = .ok (.iconst (-1), 1) := by decide +kernel
theorem dX1_findMinutes_20 : decode cX1_findMinutes 20 = .ok (.iastore, 1) := by decide +kernel
theorem dX1_findMinutes_21 : decode cX1_findMinutes 21 = .ok (.iinc 3 1, 3) := by decide +kernel
theorem dX1_findMinutes_24 : decode cX1_findMinutes 24 = .ok (.goto (-22), 3) := by decide +kernel
theorem dX1_findMinutes_27 : decode cX1_findMinutes 27 = .ok (.iconst 1, 1) := by decide +kernel
theorem dX1_findMinutes_28 : decode cX1_findMinutes 28 = .ok (.istore_n 3, 1) := by decide +kernel
theorem dX1_findMinutes_29 : decode cX1_findMinutes 29 = .ok (.iload_n 3, 1) := by decide +kernel
theorem dX1_findMinutes_30 : decode cX1_findMinutes 30 = .ok (.aload_n 0, 1) := by decide +kernel
theorem dX1_findMinutes_31 : decode cX1_findMinutes 31 = .ok (.getfield 50, 3) := by decide +kernel
theorem dX1_findMinutes_34 : decode cX1_findMinutes 34 = .ok (.if_icmp .ge 95, 3) := by decide +kernel
theorem dX1_findMinutes_37 : decode cX1_findMinutes 37 = .ok (.iconst 0, 1) := by decide +kernel
theorem dX1_findMinutes_38 : decode cX1_findMinutes 38 = .ok (.istore 4, 2) := by decide +kernel
theorem dX1_findMinutes_40 : decode cX1_findMinutes 40 = .ok (.iload 4, 2) := by decide +kernel
theorem dX1_findMinutes_42 : decode cX1_findMinutes 42 = .ok (.aload_n 0, 1) := by decide +kernel
theorem dX1_findMinutes_43 : decode cX1_findMinutes 43 = .ok (.getfield 56, 3) := by decide +kernel
theorem dX1_findMinutes_46 : decode cX1_findMinutes 46 = .ok (.if_icmp .ge 77, 3) := by decide +kernel
theorem dX1_findMinutes_49 : decode cX1_findMinutes 49 = .ok (.aload_n 2, 1) := by decide +kernel
theorem dX1_findMinutes_50 : decode cX1_findMinutes 50 = .ok (.aload_n 0, 1) := by decide +kernel
theorem dX1_findMinutes_51 : decode cX1_findMinutes 51 = .ok (.getfield 27, 3) := by decide +kernel
theorem dX1_findMinutes_54 : decode cX1_findMinutes 54 = .ok (.iload 4, 2) := by decide +kernel
theorem dX1_findMinutes_56 : decode cX1_findMinutes 56 = .ok (.iaload, 1) := by decide +kernel
theorem dX1_findMinutes_57 : decode cX1_findMinutes 57 = .ok (.iaload, 1) := by decide +kernel
theorem dX1_findMinutes_58 : decode cX1_findMinutes 58 = .ok (.istore 5, 2) := by decide +kernel
theorem dX1_findMinutes_60 : decode cX1_findMinutes 60 = .ok (.aload_n 2, 1) := by decide +kernel
theorem dX1_findMinutes_61 : decode cX1_findMinutes 61 = .ok (.aload_n 0, 1) := by decide +kernel
theorem dX1_findMinutes_62 : decode cX1_findMinutes 62 = .ok (.getfield 24, 3) := by decide +kernel
theorem dX1_findMinutes_65 : decode cX1_findMinutes 65 = .ok (.iload 4, 2) := by decide +kernel
theorem dX1_findMinutes_67 : decode cX1_findMinutes 67 = .ok (.iaload, 1) := by decide +kernel
theorem dX1_findMinutes_68 : decode cX1_findMinutes 68 = .ok (.iaload, 1) := by decide +kernel
theorem dX1_findMinutes_69 : decode cX1_findMinutes 69 = .ok (.istore 6, 2) := by decide +kernel
theorem dX1_findMinutes_71 : decode cX1_findMinutes 71 = .ok (.iload 5, 2) := by decide +kernel
theorem dX1_findMinutes_73 : decode cX1_findMinutes 73 = .ok (.iconst (-1), 1) := by decide +kernel
theorem dX1_findMinutes_74 : decode cX1_findMinutes 74 = .ok (.if_icmp .eq 43, 3) := by decide +kernel
theorem dX1_findMinutes_77 : decode cX1_findMinutes 77 = .ok (.iload 6, 2) := by decide +kernel
theorem dX1_findMinutes_79 : decode cX1_findMinutes 79 = .ok (.iconst (-1), 1) := by decide +kernel
theorem dX1_findMinutes_80 : decode cX1_findMinutes 80 = .ok (.if_icmp .eq 18, 3) := by decide +kernel
theorem dX1_findMinutes_83 : decode cX1_findMinutes 83 = .ok (.aload_n 0, 1) := by decide +kernel
theorem dX1_findMinutes_84 : decode cX1_findMinutes 84 = .ok (.getfield 30, 3) := by decide +kernel
theorem dX1_findMinutes_87 : decode cX1_findMinutes 87 = .ok (.iload 4, 2) := by decide +kernel
theorem dX1_findMinutes_89 : decode cX1_findMinutes 89 = .ok (.iaload, 1) := by decide +kernel
theorem dX1_findMinutes_90 : decode cX1_findMinutes 90 = .ok (.iload 5, 2) := by decide +kernel
theorem dX1_findMinutes_92 : decode cX1_findMinutes 92 = .ok (.iadd, 1) := by decide +kernel
theorem dX1_findMinutes_93 : decode cX1_findMinutes 93 = .ok (.iload 6, 2) := by decide +kernel
theorem dX1_findMinutes_95 : decode cX1_findMinutes 95 = .ok (.if_icmp .ge 22, 3) := by decide +kernel
theorem dX1_findMinutes_98 : decode cX1_findMinutes 98 = .ok (.aload_n 2, 1) := by decide +kernel
theorem dX1_findMinutes_99 : decode cX1_findMinutes 99 = .ok (.aload_n 0, 1) := by decide +kernel
theorem dX1_findMinutes_100 : decode cX1_findMinutes 100 = .ok (.getfield 24, 3) := by decide +kernel
theorem dX1_findMinutes_103 : decode cX1_findMinutes 103 = .ok (.iload 4, 2) := by decide +kernel
theorem dX1_findMinutes_105 : decode cX1_findMinutes 105 = .ok (.iaload, 1) := by decide +kernel
theorem dX1_findMinutes_106 : decode cX1_findMinutes 106 = .ok (.aload_n 0, 1) := by decide +kernel
theorem dX1_findMinutes_107 : decode cX1_findMinutes 107 = .ok (.getfield 30, 3) := by decide +kernel
theorem dX1_findMinutes_110 : decode cX1_findMinutes 110 = .ok (.iload 4, 2) := by decide +kernel
theorem dX1_findMinutes_112 : decode cX1_findMinutes 112 = .ok (.iaload, 1) := by decide +kernel
theorem dX1_findMinutes_113 : decode cX1_findMinutes 113 = .ok (.iload 5, 2) := by decide +kernel
theorem dX1_findMinutes_115 : decode cX1_findMinutes 115 = .ok (.iadd, 1) := by decide +kernel
theorem dX1_findMinutes_116 : decode cX1_findMinutes 116 = .ok (.iastore, 1) := by decide +kernel
theorem dX1_findMinutes_117 : decode cX1_findMinutes 117 = .ok (.iinc 4 1, 3) := by decide +kernel
theorem dX1_findMinutes_120 : decode cX1_findMinutes 120 = .ok (.goto (-80), 3) := by decide +kernel
theorem dX1_findMinutes_123 : decode cX1_findMinutes 123 = .ok (.iinc 3 1, 3) := by decide +kernel
theorem dX1_findMinutes_126 : decode cX1_findMinutes 126 = .ok (.goto (-97), 3) := by decide +kernel
theorem dX1_findMinutes_129 : decode cX1_findMinutes 129 = .ok (.return_, 1) := by decide +kernel
theorem dX2_init_0 : decode cX2_init 0 = .ok (.aload_n 0, 1) := by decide +kernel
theorem dX2_init_1 : decode cX2_init 1 = .ok (.invokespecial 3, 3) := by decide +kernel
theorem dX2_init_4 : decode cX2_init 4 = .ok (.aload_n 0, 1) := by decide +kernel
theorem dX2_init_5 : decode cX2_init 5 = .ok (.iconst 2, 1) := by decide +kernel
theorem dX2_init_6 : decode cX2_init 6 = .ok (.anewarray 9, 3) := by decide +kernel
theorem dX2_init_9 : decode cX2_init 9 = .ok (.putfield 11, 3) := by decide +kernel
theorem dX2_init_12 : decode cX2_init 12 = .ok (.aload_n 0, 1) := by decide +kernel
theorem dX2_init_13 : decode cX2_init 13 = .ok (.iconst 2, 1) := by decide +kernel
theorem dX2_init_14 : decode cX2_init 14 = .ok (.newarray .int, 2) := by decide +kernel
theorem dX2_init_16 : decode cX2_init 16 = .ok (.putfield 17, 3) := by decide +kernel
theorem dX2_init_19 : decode cX2_init 19 = .ok (.aload_n 0, 1) := by decide +kernel
theorem dX2_init_20 : decode cX2_init 20 = .ok (.iconst 2, 1) := by decide +kernel
theorem dX2_init_21 : decode cX2_init 21 = .ok (.newarray .boolean, 2) := by decide +kernel
theorem dX2_init_23 : decode cX2_init 23 = .ok (.putfield 21, 3) := by decide +kernel
theorem dX2_init_26 : decode cX2_init 26 = .ok (.iconst 0, 1) := by decide +kernel
theorem dX2_init_27 : decode cX2_init 27 = .ok (.istore_n 1, 1) := by decide +kernel
theorem dX2_init_28 : decode cX2_init 28 = .ok (.iload_n 1, 1) := by decide +kernel
theorem dX2_init_29 : decode cX2_init 29 = .ok (.iconst 2, 1) := by decide +kernel
theorem dX2_init_30 : decode cX2_init 30 = .ok (.if_icmp .ge 22, 3) := by decide +kernel
theorem dX2_init_33 : decode cX2_init 33 = .ok (.aload_n 0, 1) := by decide +kernel
theorem dX2_init_34 : decode cX2_init 34 = .ok (.getfield 11, 3) := by decide +kernel
theorem dX2_init_37 : decode cX2_init 37 = .ok (.iload_n 1, 1) := by decide +kernel
theorem dX2_init_38 : decode cX2_init 38 = .ok (.new 9, 3) := by decide +kernel
theorem dX2_init_41 : decode cX2_init 41 = .ok (.dup, 1) := by decide +kernel
theorem dX2_init_42 : decode cX2_init 42 = .ok (.invokespecial 25, 3) := by decide +kernel
theorem dX2_init_45 : decode cX2_init 45 = .ok (.aastore, 1) := by decide +kernel
theorem dX2_init_46 : decode cX2_init 46 = .ok (.iinc 1 1, 3) := by decide +kernel
theorem dX2_init_49 : decode cX2_init 49 = .ok (.goto (-21), 3) := by decide +kernel
theorem dX2_init_52 : decode cX2_init 52 = .ok (.return_, 1) := by decide +kernel
theorem dX2_take_0 : decode cX2_take 0 = .ok (.iload_n 1, 1) := by decide +kernel
theorem dX2_take_1 : decode cX2_take 1 = .ok (.ifCond .lt 32, 3) := by decide +kernel
theorem dX2_take_4 : decode cX2_take 4 = .ok (.iload_n 1, 1) := by decide +kernel
theorem dX2_take_5 : decode cX2_take 5 = .ok (.iconst 2, 1) := by decide +kernel
theorem dX2_take_6 : decode cX2_take 6 = .ok (.if_icmp .ge 27, 3) := by decide +kernel
theorem dX2_take_9 : decode cX2_take 9 = .ok (.aload_n 0, 1) := by decide +kernel
theorem dX2_take_10 : decode cX2_take 10 = .ok (.getfield 11, 3) := by decide +kernel
theorem dX2_take_13 : decode cX2_take 13 = .ok (.iload_n 1, 1) := by decide +kernel
theorem dX2_take_14 : decode cX2_take 14 = .ok (.aaload, 1) := by decide +kernel
theorem dX2_take_15 : decode cX2_take 15 = .ok (.aload_n 2, 1) := by decide +kernel
theorem dX2_take_16 : decode cX2_take 16 = .ok (.invokevirtual 26, 3) := by decide +kernel
theorem dX2_take_19 : decode cX2_take 19 = .ok (.aload_n 0, 1) := by decide +kernel
theorem dX2_take_20 : decode cX2_take 20 = .ok (.getfield 17, 3) := by decide +kernel
theorem dX2_take_23 : decode cX2_take 23 = .ok (.iload_n 1, 1) := by decide +kernel
theorem dX2_take_24 : decode cX2_take 24 = .ok (.iload_n 3, 1) := by decide +kernel
theorem dX2_take_25 : decode cX2_take 25 = .ok (.iastore, 1) := by decide +kernel
theorem dX2_take_26 : decode cX2_take 26 = .ok (.aload_n 0, 1) := by decide +kernel
theorem dX2_take_27 : decode cX2_take 27 = .ok (.getfield 21, 3) := by decide +kernel
theorem dX2_take_30 : decode cX2_take 30 = .ok (.iload_n 1, 1) := by decide +kernel
theorem dX2_take_31 : decode cX2_take 31 = .ok (.iconst 1, 1) := by decide +kernel
theorem dX2_take_32 : decode cX2_take 32 = .ok (.bastore, 1) := by decide +kernel
theorem dX2_take_33 : decode cX2_take 33 = .ok (.return_, 1) := by decide +kernel
theorem dX2_forget_0 : decode cX2_forget 0 = .ok (.iconst 0, 1) := by decide +kernel
theorem dX2_forget_1 : decode cX2_forget 1 = .ok (.istore_n 1, 1) := by decide +kernel
theorem dX2_forget_2 : decode cX2_forget 2 = .ok (.iload_n 1, 1) := by decide +kernel
theorem dX2_forget_3 : decode cX2_forget 3 = .ok (.iconst 2, 1) := by decide +kernel
theorem dX2_forget_4 : decode cX2_forget 4 = .ok (.if_icmp .ge 16, 3) := by decide +kernel
theorem dX2_forget_7 : decode cX2_forget 7 = .ok (.aload_n 0, 1) := by decide +kernel
theorem dX2_forget_8 : decode cX2_forget 8 = .ok (.getfield 21, 3) := by decide +kernel
theorem dX2_forget_11 : decode cX2_forget 11 = .ok (.iload_n 1, 1) := by decide +kernel
theorem dX2_forget_12 : decode cX2_forget 12 = .ok (.iconst 0, 1) := by decide +kernel
theorem dX2_forget_13 : decode cX2_forget 13 = .ok (.bastore, 1) := by decide +kernel
theorem dX2_forget_14 : decode cX2_forget 14 = .ok (.iinc 1 1, 3) := by decide +kernel
theorem dX2_forget_17 : decode cX2_forget 17 = .ok (.goto (-15), 3) := by decide +kernel
theorem dX2_forget_20 : decode cX2_forget 20 = .ok (.return_, 1) := by decide +kernel
theorem dX3_init_0 : decode cX3_init 0 = .ok (.aload_n 0, 1) := by decide +kernel
theorem dX3_init_1 : decode cX3_init 1 = .ok (.invokespecial 3, 3) := by decide +kernel
theorem dX3_init_4 : decode cX3_init 4 = .ok (.aload_n 0, 1) := by decide +kernel
theorem dX3_init_5 : decode cX3_init 5 = .ok (.bipush 20, 2) := by decide +kernel
theorem dX3_init_7 : decode cX3_init 7 = .ok (.anewarray 9, 3) := by decide +kernel
theorem dX3_init_10 : decode cX3_init 10 = .ok (.putfield 11, 3) := by decide +kernel
theorem dX3_init_13 : decode cX3_init 13 = .ok (.iconst 0, 1) := by decide +kernel
theorem dX3_init_14 : decode cX3_init 14 = .ok (.istore_n 1, 1) := by decide +kernel
theorem dX3_init_15 : decode cX3_init 15 = .ok (.iload_n 1, 1) := by decide +kernel
theorem dX3_init_16 : decode cX3_init 16 = .ok (.bipush 20, 2) := by decide +kernel
theorem dX3_init_18 : decode cX3_init 18 = .ok (.if_icmp .ge 22, 3) := by decide +kernel
theorem dX3_init_21 : decode cX3_init 21 = .ok (.aload_n 0, 1) := by decide +kernel
theorem dX3_init_22 : decode cX3_init 22 = .ok (.getfield 11, 3) := by decide +kernel
theorem dX3_init_25 : decode cX3_init 25 = .ok (.iload_n 1, 1) := by decide +kernel
theorem dX3_init_26 : decode cX3_init 26 = .ok (.new 9, 3) := by decide +kernel
theorem dX3_init_29 : decode cX3_init 29 = .ok (.dup, 1) := by decide +kernel
theorem dX3_init_30 : decode cX3_init 30 = .ok (.invokespecial 17, 3) := by decide +kernel
theorem dX3_init_33 : decode cX3_init 33 = .ok (.aastore, 1) := by decide +kernel
theorem dX3_init_34 : decode cX3_init 34 = .ok (.iinc 1 1, 3) := by decide +kernel
theorem dX3_init_37 : decode cX3_init 37 = .ok (.goto (-22), 3) := by decide +kernel
theorem dX3_init_40 : decode cX3_init 40 = .ok (.return_, 1) := by decide +kernel
theorem dX3_remember_0 : decode cX3_remember 0 = .ok (.aload_n 0, 1) := by decide +kernel
theorem dX3_remember_1 : decode cX3_remember 1 = .ok (.getfield 11, 3) := by decide +kernel
theorem dX3_remember_4 : decode cX3_remember 4 = .ok (.aload_n 0, 1) := by decide +kernel
theorem dX3_remember_5 : decode cX3_remember 5 = .ok (.getfield 18, 3) := by decide +kernel
theorem dX3_remember_8 : decode cX3_remember 8 = .ok (.aaload, 1) := by decide +kernel
theorem dX3_remember_9 : decode cX3_remember 9 = .ok (.aload_n 1, 1) := by decide +kernel
theorem dX3_remember_10 : decode cX3_remember 10 = .ok (.invokevirtual 22, 3) := by decide +kernel
theorem dX3_remember_13 : decode cX3_remember 13 = .ok (.aload_n 0, 1) := by decide +kernel
theorem dX3_remember_14 : decode cX3_remember 14 = .ok (.aload_n 0, 1) := by decide +kernel
theorem dX3_remember_15 : decode cX3_remember 15 = .ok (.getfield 18, 3) := by decide +kernel
theorem dX3_remember_18 : decode cX3_remember 18 = .ok (.iconst 1, 1) := by decide +kernel
theorem dX3_remember_19 : decode cX3_remember 19 = .ok (.iadd, 1) := by decide +kernel
theorem dX3_remember_20 : decode cX3_remember 20 = .ok (.bipush 20, 2) := by decide +kernel
theorem dX3_remember_22 : decode cX3_remember 22 = .ok (.irem, 1) := by decide +kernel
theorem dX3_remember_23 : decode cX3_remember 23 = .ok (.putfield 18, 3) := by decide +kernel
theorem dX3_remember_26 : decode cX3_remember 26 = .ok (.aload_n 0, 1) := by decide +kernel
theorem dX3_remember_27 : decode cX3_remember 27 = .ok (.aload_n 0, 1) := by decide +kernel
theorem dX3_remember_28 : decode cX3_remember 28 = .ok (.getfield 26, 3) := by decide +kernel
theorem dX3_remember_31 : decode cX3_remember 31 = .ok (.iconst 1, 1) := by decide +kernel
theorem dX3_remember_32 : decode cX3_remember 32 = .ok (.iadd, 1) := by decide +kernel
theorem dX3_remember_33 : decode cX3_remember 33 = .ok (.bipush 20, 2) := by decide +kernel
theorem dX3_remember_35 : decode cX3_remember 35 = .ok (.invokestatic 29, 3) := by decide +kernel
theorem dX3_remember_38 : decode cX3_remember 38 = .ok (.putfield 26, 3) := by decide +kernel
theorem dX3_remember_41 : decode cX3_remember 41 = .ok (.return_, 1) := by decide +kernel
theorem dX3_bringBack_0 : decode cX3_bringBack 0 = .ok (.aload_n 0, 1) := by decide +kernel
theorem dX3_bringBack_1 : decode cX3_bringBack 1 = .ok (.getfield 26, 3) := by decide +kernel
theorem dX3_bringBack_4 : decode cX3_bringBack 4 = .ok (.ifCond .le 42, 3) := by decide +kernel
theorem dX3_bringBack_7 : decode cX3_bringBack 7 = .ok (.aload_n 0, 1) := by decide +kernel
theorem dX3_bringBack_8 : decode cX3_bringBack 8 = .ok (.aload_n 0, 1) := by decide +kernel
theorem dX3_bringBack_9 : decode cX3_bringBack 9 = .ok (.getfield 18, 3) := by decide +kernel
theorem dX3_bringBack_12 : decode cX3_bringBack 12 = .ok (.bipush 20, 2) := by decide +kernel
theorem dX3_bringBack_14 : decode cX3_bringBack 14 = .ok (.iadd, 1) := by decide +kernel
theorem dX3_bringBack_15 : decode cX3_bringBack 15 = .ok (.iconst 1, 1) := by decide +kernel
theorem dX3_bringBack_16 : decode cX3_bringBack 16 = .ok (.isub, 1) := by decide +kernel
theorem dX3_bringBack_17 : decode cX3_bringBack 17 = .ok (.bipush 20, 2) := by decide +kernel
theorem dX3_bringBack_19 : decode cX3_bringBack 19 = .ok (.irem, 1) := by decide +kernel
theorem dX3_bringBack_20 : decode cX3_bringBack 20 = .ok (.putfield 18, 3) := by decide +kernel
theorem dX3_bringBack_23 : decode cX3_bringBack 23 = .ok (.aload_n 1, 1) := by decide +kernel
theorem dX3_bringBack_24 : decode cX3_bringBack 24 = .ok (.aload_n 0, 1) := by decide +kernel
theorem dX3_bringBack_25 : decode cX3_bringBack 25 = .ok (.getfield 11, 3) := by decide +kernel
theorem dX3_bringBack_28 : decode cX3_bringBack 28 = .ok (.aload_n 0, 1) := by decide +kernel
theorem dX3_bringBack_29 : decode cX3_bringBack 29 = .ok (.getfield 18, 3) := by decide +kernel
theorem dX3_bringBack_32 : decode cX3_bringBack 32 = .ok (.aaload, 1) := by decide +kernel
theorem dX3_bringBack_33 : decode cX3_bringBack 33 = .ok (.invokevirtual 22, 3) := by decide +kernel
theorem dX3_bringBack_36 : decode cX3_bringBack 36 = .ok (.aload_n 0, 1) := by decide +kernel
theorem dX3_bringBack_37 : decode cX3_bringBack 37 = .ok (.dup, 1) := by decide +kernel
theorem dX3_bringBack_38 : decode cX3_bringBack 38 = .ok (.getfield 26, 3) := by decide +kernel
theorem dX3_bringBack_41 : decode cX3_bringBack 41 = .ok (.iconst 1, 1) := by decide +kernel
theorem dX3_bringBack_42 : decode cX3_bringBack 42 = .ok (.isub, 1) := by decide +kernel
theorem dX3_bringBack_43 : decode cX3_bringBack 43 = .ok (.putfield 26, 3) := by decide +kernel
theorem dX3_bringBack_46 : decode cX3_bringBack 46 = .ok (.return_, 1) := by decide +kernel
theorem dX4_init_0 : decode cX4_init 0 = .ok (.aload_n 0, 1) := by decide +kernel
theorem dX4_init_1 : decode cX4_init 1 = .ok (.invokespecial 3, 3) := by decide +kernel
theorem dX4_init_4 : decode cX4_init 4 = .ok (.aload_n 0, 1) := by decide +kernel
theorem dX4_init_5 : decode cX4_init 5 = .ok (.iconst 5, 1) := by decide +kernel
theorem dX4_init_6 : decode cX4_init 6 = .ok (.newarray .int, 2) := by decide +kernel
theorem dX4_init_8 : decode cX4_init 8 = .ok (.putfield 9, 3) := by decide +kernel
theorem dX4_init_11 : decode cX4_init 11 = .ok (.return_, 1) := by decide +kernel
theorem dX4_begin_0 : decode cX4_begin 0 = .ok (.iconst 0, 1) := by decide +kernel
theorem dX4_begin_1 : decode cX4_begin 1 = .ok (.istore_n 2, 1) := by decide +kernel
theorem dX4_begin_2 : decode cX4_begin 2 = .ok (.iload_n 2, 1) := by decide +kernel
theorem dX4_begin_3 : decode cX4_begin 3 = .ok (.iconst 5, 1) := by decide +kernel
theorem dX4_begin_4 : decode cX4_begin 4 = .ok (.if_icmp .ge 33, 3) := by decide +kernel
theorem dX4_begin_7 : decode cX4_begin 7 = .ok (.aload_n 0, 1) := by decide +kernel
theorem dX4_begin_8 : decode cX4_begin 8 = .ok (.getfield 9, 3) := by decide +kernel
theorem dX4_begin_11 : decode cX4_begin 11 = .ok (.iload_n 2, 1) := by decide +kernel
theorem dX4_begin_12 : decode cX4_begin 12 = .ok (.aload_n 1, 1) := by decide +kernel
theorem dX4_begin_13 : decode cX4_begin 13 = .ok (.iload_n 2, 1) := by decide +kernel
theorem dX4_begin_14 : decode cX4_begin 14 = .ok (.invokevirtual 15, 3) := by decide +kernel
theorem dX4_begin_17 : decode cX4_begin 17 = .ok (.ifCond .eq 12, 3) := by decide +kernel
theorem dX4_begin_20 : decode cX4_begin 20 = .ok (.aload_n 1, 1) := by decide +kernel
theorem dX4_begin_21 : decode cX4_begin 21 = .ok (.getfield 21, 3) := by decide +kernel
theorem dX4_begin_24 : decode cX4_begin 24 = .ok (.iload_n 2, 1) := by decide +kernel
theorem dX4_begin_25 : decode cX4_begin 25 = .ok (.iaload, 1) := by decide +kernel
theorem dX4_begin_26 : decode cX4_begin 26 = .ok (.goto 4, 3) := by decide +kernel
theorem dX4_begin_29 : decode cX4_begin 29 = .ok (.iconst 0, 1) := by decide +kernel
theorem dX4_begin_30 : decode cX4_begin 30 = .ok (.iastore, 1) := by decide +kernel
theorem dX4_begin_31 : decode cX4_begin 31 = .ok (.iinc 2 1, 3) := by decide +kernel
theorem dX4_begin_34 : decode cX4_begin 34 = .ok (.goto (-32), 3) := by decide +kernel
theorem dX4_begin_37 : decode cX4_begin 37 = .ok (.aload_n 0, 1) := by decide +kernel
theorem dX4_begin_38 : decode cX4_begin 38 = .ok (.aload_n 1, 1) := by decide +kernel
theorem dX4_begin_39 : decode cX4_begin 39 = .ok (.getfield 22, 3) := by decide +kernel
theorem dX4_begin_42 : decode cX4_begin 42 = .ok (.putfield 26, 3) := by decide +kernel
theorem dX4_begin_45 : decode cX4_begin 45 = .ok (.aload_n 0, 1) := by decide +kernel
theorem dX4_begin_46 : decode cX4_begin 46 = .ok (.iconst 0, 1) := by decide +kernel
theorem dX4_begin_47 : decode cX4_begin 47 = .ok (.putfield 27, 3) := by decide +kernel
theorem dX4_begin_50 : decode cX4_begin 50 = .ok (.aload_n 0, 1) := by decide +kernel
theorem dX4_begin_51 : decode cX4_begin 51 = .ok (.iconst 0, 1) := by decide +kernel
theorem dX4_begin_52 : decode cX4_begin 52 = .ok (.putfield 30, 3) := by decide +kernel
theorem dX4_begin_55 : decode cX4_begin 55 = .ok (.aload_n 0, 1) := by decide +kernel
theorem dX4_begin_56 : decode cX4_begin 56 = .ok (.iconst 0, 1) := by decide +kernel
theorem dX4_begin_57 : decode cX4_begin 57 = .ok (.putfield 33, 3) := by decide +kernel
theorem dX4_begin_60 : decode cX4_begin 60 = .ok (.return_, 1) := by decide +kernel
theorem dX4_become_0 : decode cX4_become 0 = .ok (.iconst 0, 1) := by decide +kernel
theorem dX4_become_1 : decode cX4_become 1 = .ok (.istore_n 2, 1) := by decide +kernel
theorem dX4_become_2 : decode cX4_become 2 = .ok (.iload_n 2, 1) := by decide +kernel
theorem dX4_become_3 : decode cX4_become 3 = .ok (.iconst 5, 1) := by decide +kernel
theorem dX4_become_4 : decode cX4_become 4 = .ok (.if_icmp .ge 21, 3) := by decide +kernel
theorem dX4_become_7 : decode cX4_become 7 = .ok (.aload_n 0, 1) := by decide +kernel
theorem dX4_become_8 : decode cX4_become 8 = .ok (.getfield 9, 3) := by decide +kernel
theorem dX4_become_11 : decode cX4_become 11 = .ok (.iload_n 2, 1) := by decide +kernel
theorem dX4_become_12 : decode cX4_become 12 = .ok (.aload_n 1, 1) := by decide +kernel
theorem dX4_become_13 : decode cX4_become 13 = .ok (.getfield 9, 3) := by decide +kernel
theorem dX4_become_16 : decode cX4_become 16 = .ok (.iload_n 2, 1) := by decide +kernel
theorem dX4_become_17 : decode cX4_become 17 = .ok (.iaload, 1) := by decide +kernel
theorem dX4_become_18 : decode cX4_become 18 = .ok (.iastore, 1) := by decide +kernel
theorem dX4_become_19 : decode cX4_become 19 = .ok (.iinc 2 1, 3) := by decide +kernel
theorem dX4_become_22 : decode cX4_become 22 = .ok (.goto (-20), 3) := by decide +kernel
theorem dX4_become_25 : decode cX4_become 25 = .ok (.aload_n 0, 1) := by decide +kernel
theorem dX4_become_26 : decode cX4_become 26 = .ok (.aload_n 1, 1) := by decide +kernel
theorem dX4_become_27 : decode cX4_become 27 = .ok (.getfield 26, 3) := by decide +kernel
theorem dX4_become_30 : decode cX4_become 30 = .ok (.putfield 26, 3) := by decide +kernel
theorem dX4_become_33 : decode cX4_become 33 = .ok (.aload_n 0, 1) := by decide +kernel
theorem dX4_become_34 : decode cX4_become 34 = .ok (.aload_n 1, 1) := by decide +kernel
theorem dX4_become_35 : decode cX4_become 35 = .ok (.getfield 27, 3) := by decide +kernel
theorem dX4_become_38 : decode cX4_become 38 = .ok (.putfield 27, 3) := by decide +kernel
theorem dX4_become_41 : decode cX4_become 41 = .ok (.aload_n 0, 1) := by decide +kernel
theorem dX4_become_42 : decode cX4_become 42 = .ok (.aload_n 1, 1) := by decide +kernel
theorem dX4_become_43 : decode cX4_become 43 = .ok (.getfield 30, 3) := by decide +kernel
theorem dX4_become_46 : decode cX4_become 46 = .ok (.putfield 30, 3) := by decide +kernel
theorem dX4_become_49 : decode cX4_become 49 = .ok (.aload_n 0, 1) := by decide +kernel
theorem dX4_become_50 : decode cX4_become 50 = .ok (.aload_n 1, 1) := by decide +kernel
theorem dX4_become_51 : decode cX4_become 51 = .ok (.getfield 33, 3) := by decide +kernel
theorem dX4_become_54 : decode cX4_become 54 = .ok (.putfield 33, 3) := by decide +kernel
theorem dX4_become_57 : decode cX4_become 57 = .ok (.return_, 1) := by decide +kernel
theorem dX4_mindOf_0 : decode cX4_mindOf 0 = .ok (.iload_n 1, 1) := by decide +kernel
theorem dX4_mindOf_1 : decode cX4_mindOf 1 = .ok (.ifCond .lt 17, 3) := by decide +kernel
theorem dX4_mindOf_4 : decode cX4_mindOf 4 = .ok (.iload_n 1, 1) := by decide +kernel
theorem dX4_mindOf_5 : decode cX4_mindOf 5 = .ok (.iconst 5, 1) := by decide +kernel
theorem dX4_mindOf_6 : decode cX4_mindOf 6 = .ok (.if_icmp .ge 12, 3) := by decide +kernel
theorem dX4_mindOf_9 : decode cX4_mindOf 9 = .ok (.aload_n 0, 1) := by decide +kernel
theorem dX4_mindOf_10 : decode cX4_mindOf 10 = .ok (.getfield 9, 3) := by decide +kernel
theorem dX4_mindOf_13 : decode cX4_mindOf 13 = .ok (.iload_n 1, 1) := by decide +kernel
theorem dX4_mindOf_14 : decode cX4_mindOf 14 = .ok (.iaload, 1) := by decide +kernel
theorem dX4_mindOf_15 : decode cX4_mindOf 15 = .ok (.goto 4, 3) := by decide +kernel
theorem dX4_mindOf_18 : decode cX4_mindOf 18 = .ok (.iconst 0, 1) := by decide +kernel
theorem dX4_mindOf_19 : decode cX4_mindOf 19 = .ok (.ireturn, 1) := by decide +kernel
theorem dX4_setMind_0 : decode cX4_setMind 0 = .ok (.iload_n 1, 1) := by decide +kernel
theorem dX4_setMind_1 : decode cX4_setMind 1 = .ok (.ifCond .lt 15, 3) := by decide +kernel
theorem dX4_setMind_4 : decode cX4_setMind 4 = .ok (.iload_n 1, 1) := by decide +kernel
theorem dX4_setMind_5 : decode cX4_setMind 5 = .ok (.iconst 5, 1) := by decide +kernel
theorem dX4_setMind_6 : decode cX4_setMind 6 = .ok (.if_icmp .ge 10, 3) := by decide +kernel
theorem dX4_setMind_9 : decode cX4_setMind 9 = .ok (.aload_n 0, 1) := by decide +kernel
theorem dX4_setMind_10 : decode cX4_setMind 10 = .ok (.getfield 9, 3) := by decide +kernel
theorem dX4_setMind_13 : decode cX4_setMind 13 = .ok (.iload_n 1, 1) := by decide +kernel
theorem dX4_setMind_14 : decode cX4_setMind 14 = .ok (.iload_n 2, 1) := by decide +kernel
theorem dX4_setMind_15 : decode cX4_setMind 15 = .ok (.iastore, 1) := by decide +kernel
theorem dX4_setMind_16 : decode cX4_setMind 16 = .ok (.return_, 1) := by decide +kernel
theorem dX4_isGone_0 : decode cX4_isGone 0 = .ok (.aload_n 0, 1) := by decide +kernel
theorem dX4_isGone_1 : decode cX4_isGone 1 = .ok (.getfield 27, 3) := by decide +kernel
theorem dX4_isGone_4 : decode cX4_isGone 4 = .ok (.iconst 1, 1) := by decide +kernel
theorem dX4_isGone_5 : decode cX4_isGone 5 = .ok (.iload_n 1, 1) := by decide +kernel
theorem dX4_isGone_6 : decode cX4_isGone 6 = .ok (.ishl, 1) := by decide +kernel
theorem dX4_isGone_7 : decode cX4_isGone 7 = .ok (.iand, 1) := by decide +kernel
theorem dX4_isGone_8 : decode cX4_isGone 8 = .ok (.ifCond .eq 7, 3) := by decide +kernel
theorem dX4_isGone_11 : decode cX4_isGone 11 = .ok (.iconst 1, 1) := by decide +kernel
theorem dX4_isGone_12 : decode cX4_isGone 12 = .ok (.goto 4, 3) := by decide +kernel
theorem dX4_isGone_15 : decode cX4_isGone 15 = .ok (.iconst 0, 1) := by decide +kernel
theorem dX4_isGone_16 : decode cX4_isGone 16 = .ok (.ireturn, 1) := by decide +kernel
theorem dX4_comes_0 : decode cX4_comes 0 = .ok (.aload_n 0, 1) := by decide +kernel
theorem dX4_comes_1 : decode cX4_comes 1 = .ok (.iload_n 1, 1) := by decide +kernel
theorem dX4_comes_2 : decode cX4_comes 2 = .ok (.iload_n 2, 1) := by decide +kernel
theorem dX4_comes_3 : decode cX4_comes 3 = .ok (.invokevirtual 36, 3) := by decide +kernel
theorem dX4_comes_6 : decode cX4_comes 6 = .ok (.aload_n 0, 1) := by decide +kernel
theorem dX4_comes_7 : decode cX4_comes 7 = .ok (.dup, 1) := by decide +kernel
theorem dX4_comes_8 : decode cX4_comes 8 = .ok (.getfield 27, 3) := by decide +kernel
theorem dX4_comes_11 : decode cX4_comes 11 = .ok (.iconst 1, 1) := by decide +kernel
theorem dX4_comes_12 : decode cX4_comes 12 = .ok (.iload_n 1, 1) := by decide +kernel
theorem dX4_comes_13 : decode cX4_comes 13 = .ok (.ishl, 1) := by decide +kernel
theorem dX4_comes_14 : decode cX4_comes 14 = .ok (.iconst (-1), 1) := by decide +kernel
theorem dX4_comes_15 : decode cX4_comes 15 = .ok (.ixor, 1) := by decide +kernel
theorem dX4_comes_16 : decode cX4_comes 16 = .ok (.iand, 1) := by decide +kernel
theorem dX4_comes_17 : decode cX4_comes 17 = .ok (.putfield 27, 3) := by decide +kernel
theorem dX4_comes_20 : decode cX4_comes 20 = .ok (.return_, 1) := by decide +kernel
theorem dX4_leaves_0 : decode cX4_leaves 0 = .ok (.iload_n 2, 1) := by decide +kernel
theorem dX4_leaves_1 : decode cX4_leaves 1 = .ok (.ifCond .eq 17, 3) := by decide +kernel
theorem dX4_leaves_4 : decode cX4_leaves 4 = .ok (.aload_n 0, 1) := by decide +kernel
theorem dX4_leaves_5 : decode cX4_leaves 5 = .ok (.dup, 1) := by decide +kernel
theorem dX4_leaves_6 : decode cX4_leaves 6 = .ok (.getfield 26, 3) := by decide +kernel
theorem dX4_leaves_9 : decode cX4_leaves 9 = .ok (.aload_n 0, 1) := by decide +kernel
theorem dX4_leaves_10 : decode cX4_leaves 10 = .ok (.iload_n 1, 1) := by decide +kernel
theorem dX4_leaves_11 : decode cX4_leaves 11 = .ok (.invokevirtual 40, 3) := by decide +kernel
theorem dX4_leaves_14 : decode cX4_leaves 14 = .ok (.ior, 1) := by decide +kernel
theorem dX4_leaves_15 : decode cX4_leaves 15 = .ok (.putfield 26, 3) := by decide +kernel
theorem dX4_leaves_18 : decode cX4_leaves 18 = .ok (.aload_n 0, 1) := by decide +kernel
theorem dX4_leaves_19 : decode cX4_leaves 19 = .ok (.dup, 1) := by decide +kernel
theorem dX4_leaves_20 : decode cX4_leaves 20 = .ok (.getfield 27, 3) := by decide +kernel
theorem dX4_leaves_23 : decode cX4_leaves 23 = .ok (.iconst 1, 1) := by decide +kernel
theorem dX4_leaves_24 : decode cX4_leaves 24 = .ok (.iload_n 1, 1) := by decide +kernel
theorem dX4_leaves_25 : decode cX4_leaves 25 = .ok (.ishl, 1) := by decide +kernel
theorem dX4_leaves_26 : decode cX4_leaves 26 = .ok (.ior, 1) := by decide +kernel
theorem dX4_leaves_27 : decode cX4_leaves 27 = .ok (.putfield 27, 3) := by decide +kernel
theorem dX4_leaves_30 : decode cX4_leaves 30 = .ok (.return_, 1) := by decide +kernel
theorem dX5_init_0 : decode cX5_init 0 = .ok (.aload_n 0, 1) := by decide +kernel
theorem dX5_init_1 : decode cX5_init 1 = .ok (.invokespecial 3, 3) := by decide +kernel
theorem dX5_init_4 : decode cX5_init 4 = .ok (.aload_n 0, 1) := by decide +kernel
theorem dX5_init_5 : decode cX5_init 5 = .ok (.bipush 6, 2) := by decide +kernel
theorem dX5_init_7 : decode cX5_init 7 = .ok (.newarray .int, 2) := by decide +kernel
theorem dX5_init_9 : decode cX5_init 9 = .ok (.putfield 9, 3) := by decide +kernel
theorem dX5_init_12 : decode cX5_init 12 = .ok (.aload_n 0, 1) := by decide +kernel
theorem dX5_init_13 : decode cX5_init 13 = .ok (.bipush 6, 2) := by decide +kernel
theorem dX5_init_15 : decode cX5_init 15 = .ok (.newarray .int, 2) := by decide +kernel
theorem dX5_init_17 : decode cX5_init 17 = .ok (.putfield 15, 3) := by decide +kernel
theorem dX5_init_20 : decode cX5_init 20 = .ok (.aload_n 0, 1) := by decide +kernel
theorem dX5_init_21 : decode cX5_init 21 = .ok (.bipush 6, 2) := by decide +kernel
theorem dX5_init_23 : decode cX5_init 23 = .ok (.newarray .boolean, 2) := by decide +kernel
theorem dX5_init_25 : decode cX5_init 25 = .ok (.putfield 18, 3) := by decide +kernel
theorem dX5_init_28 : decode cX5_init 28 = .ok (.aload_n 0, 1) := by decide +kernel
theorem dX5_init_29 : decode cX5_init 29 = .ok (.bipush 8, 2) := by decide +kernel
theorem dX5_init_31 : decode cX5_init 31 = .ok (.newarray .int, 2) := by decide +kernel
theorem dX5_init_33 : decode cX5_init 33 = .ok (.putfield 22, 3) := by decide +kernel
theorem dX5_init_36 : decode cX5_init 36 = .ok (.return_, 1) := by decide +kernel
theorem dX5_append_0 : decode cX5_append 0 = .ok (.aload_n 0, 1) := by decide +kernel
theorem dX5_append_1 : decode cX5_append 1 = .ok (.getfield 25, 3) := by decide +kernel
theorem dX5_append_4 : decode cX5_append 4 = .ok (.bipush 6, 2) := by decide +kernel
theorem dX5_append_6 : decode cX5_append 6 = .ok (.if_icmp .lt 5, 3) := by decide +kernel
theorem dX5_append_9 : decode cX5_append 9 = .ok (.iconst 0, 1) := by decide +kernel
theorem dX5_append_10 : decode cX5_append 10 = .ok (.ireturn, 1) := by decide +kernel
theorem dX5_append_11 : decode cX5_append 11 = .ok (.aload_n 0, 1) := by decide +kernel
theorem dX5_append_12 : decode cX5_append 12 = .ok (.getfield 9, 3) := by decide +kernel
theorem dX5_append_15 : decode cX5_append 15 = .ok (.aload_n 0, 1) := by decide +kernel
theorem dX5_append_16 : decode cX5_append 16 = .ok (.getfield 25, 3) := by decide +kernel
theorem dX5_append_19 : decode cX5_append 19 = .ok (.iload_n 1, 1) := by decide +kernel
theorem dX5_append_20 : decode cX5_append 20 = .ok (.iastore, 1) := by decide +kernel
theorem dX5_append_21 : decode cX5_append 21 = .ok (.aload_n 0, 1) := by decide +kernel
theorem dX5_append_22 : decode cX5_append 22 = .ok (.getfield 15, 3) := by decide +kernel
theorem dX5_append_25 : decode cX5_append 25 = .ok (.aload_n 0, 1) := by decide +kernel
theorem dX5_append_26 : decode cX5_append 26 = .ok (.getfield 25, 3) := by decide +kernel
theorem dX5_append_29 : decode cX5_append 29 = .ok (.iload_n 2, 1) := by decide +kernel
theorem dX5_append_30 : decode cX5_append 30 = .ok (.iastore, 1) := by decide +kernel
theorem dX5_append_31 : decode cX5_append 31 = .ok (.aload_n 0, 1) := by decide +kernel
theorem dX5_append_32 : decode cX5_append 32 = .ok (.getfield 18, 3) := by decide +kernel
theorem dX5_append_35 : decode cX5_append 35 = .ok (.aload_n 0, 1) := by decide +kernel
theorem dX5_append_36 : decode cX5_append 36 = .ok (.getfield 25, 3) := by decide +kernel
theorem dX5_append_39 : decode cX5_append 39 = .ok (.iload_n 3, 1) := by decide +kernel
theorem dX5_append_40 : decode cX5_append 40 = .ok (.bastore, 1) := by decide +kernel
theorem dX5_append_41 : decode cX5_append 41 = .ok (.aload_n 0, 1) := by decide +kernel
theorem dX5_append_42 : decode cX5_append 42 = .ok (.dup, 1) := by decide +kernel
theorem dX5_append_43 : decode cX5_append 43 = .ok (.getfield 25, 3) := by decide +kernel
theorem dX5_append_46 : decode cX5_append 46 = .ok (.iconst 1, 1) := by decide +kernel
theorem dX5_append_47 : decode cX5_append 47 = .ok (.iadd, 1) := by decide +kernel
theorem dX5_append_48 : decode cX5_append 48 = .ok (.putfield 25, 3) := by decide +kernel
theorem dX5_append_51 : decode cX5_append 51 = .ok (.iconst 1, 1) := by decide +kernel
theorem dX5_append_52 : decode cX5_append 52 = .ok (.ireturn, 1) := by decide +kernel
theorem dX5_look_0 : decode cX5_look 0 = .ok (.aload_n 0, 1) := by decide +kernel
theorem dX5_look_1 : decode cX5_look 1 = .ok (.iconst 0, 1) := by decide +kernel
theorem dX5_look_2 : decode cX5_look 2 = .ok (.putfield 29, 3) := by decide +kernel
theorem dX5_look_5 : decode cX5_look 5 = .ok (.aload_n 0, 1) := by decide +kernel
theorem dX5_look_6 : decode cX5_look 6 = .ok (.iconst (-1), 1) := by decide +kernel
theorem dX5_look_7 : decode cX5_look 7 = .ok (.putfield 32, 3) := by decide +kernel
theorem dX5_look_10 : decode cX5_look 10 = .ok (.aload_n 0, 1) := by decide +kernel
theorem dX5_look_11 : decode cX5_look 11 = .ok (.iconst 0, 1) := by decide +kernel
theorem dX5_look_12 : decode cX5_look 12 = .ok (.putfield 35, 3) := by decide +kernel
theorem dX5_look_15 : decode cX5_look 15 = .ok (.iconst 0, 1) := by decide +kernel
theorem dX5_look_16 : decode cX5_look 16 = .ok (.istore_n 2, 1) := by decide +kernel
theorem dX5_look_17 : decode cX5_look 17 = .ok (.iload_n 2, 1) := by decide +kernel
theorem dX5_look_18 : decode cX5_look 18 = .ok (.bipush 8, 2) := by decide +kernel
theorem dX5_look_20 : decode cX5_look 20 = .ok (.if_icmp .ge 16, 3) := by decide +kernel
theorem dX5_look_23 : decode cX5_look 23 = .ok (.aload_n 0, 1) := by decide +kernel
theorem dX5_look_24 : decode cX5_look 24 = .ok (.getfield 22, 3) := by decide +kernel
theorem dX5_look_27 : decode cX5_look 27 = .ok (.iload_n 2, 1) := by decide +kernel
theorem dX5_look_28 : decode cX5_look 28 = .ok (.iconst 0, 1) := by decide +kernel
theorem dX5_look_29 : decode cX5_look 29 = .ok (.iastore, 1) := by decide +kernel
theorem dX5_look_30 : decode cX5_look 30 = .ok (.iinc 2 1, 3) := by decide +kernel
theorem dX5_look_33 : decode cX5_look 33 = .ok (.goto (-16), 3) := by decide +kernel
theorem dX5_look_36 : decode cX5_look 36 = .ok (.iconst 1, 1) := by decide +kernel
theorem dX5_look_37 : decode cX5_look 37 = .ok (.iload_n 1, 1) := by decide +kernel
theorem dX5_look_38 : decode cX5_look 38 = .ok (.ishl, 1) := by decide +kernel
theorem dX5_look_39 : decode cX5_look 39 = .ok (.istore_n 2, 1) := by decide +kernel
theorem dX5_look_40 : decode cX5_look 40 = .ok (.iconst 0, 1) := by decide +kernel
theorem dX5_look_41 : decode cX5_look 41 = .ok (.istore_n 3, 1) := by decide +kernel
theorem dX5_look_42 : decode cX5_look 42 = .ok (.iload_n 3, 1) := by decide +kernel
theorem dX5_look_43 : decode cX5_look 43 = .ok (.iload_n 2, 1) := by decide +kernel
theorem dX5_look_44 : decode cX5_look 44 = .ok (.if_icmp .ge 72, 3) := by decide +kernel
theorem dX5_look_47 : decode cX5_look 47 = .ok (.aload_n 0, 1) := by decide +kernel
theorem dX5_look_48 : decode cX5_look 48 = .ok (.iload_n 3, 1) := by decide +kernel
theorem dX5_look_49 : decode cX5_look 49 = .ok (.invokevirtual 38, 3) := by decide +kernel
theorem dX5_look_52 : decode cX5_look 52 = .ok (.ifCond .eq 58, 3) := by decide +kernel
theorem dX5_look_55 : decode cX5_look 55 = .ok (.aload_n 0, 1) := by decide +kernel
theorem dX5_look_56 : decode cX5_look 56 = .ok (.aload_n 0, 1) := by decide +kernel
theorem dX5_look_57 : decode cX5_look 57 = .ok (.getfield 29, 3) := by decide +kernel
theorem dX5_look_60 : decode cX5_look 60 = .ok (.ifCond .ne 7, 3) := by decide +kernel
theorem dX5_look_63 : decode cX5_look 63 = .ok (.iload_n 3, 1) := by decide +kernel
theorem dX5_look_64 : decode cX5_look 64 = .ok (.goto 7, 3) := by decide +kernel
theorem dX5_look_67 : decode cX5_look 67 = .ok (.aload_n 0, 1) := by decide +kernel
theorem dX5_look_68 : decode cX5_look 68 = .ok (.getfield 32, 3) := by decide +kernel
theorem dX5_look_71 : decode cX5_look 71 = .ok (.putfield 32, 3) := by decide +kernel
theorem dX5_look_74 : decode cX5_look 74 = .ok (.aload_n 0, 1) := by decide +kernel
theorem dX5_look_75 : decode cX5_look 75 = .ok (.aload_n 0, 1) := by decide +kernel
theorem dX5_look_76 : decode cX5_look 76 = .ok (.getfield 29, 3) := by decide +kernel
theorem dX5_look_79 : decode cX5_look 79 = .ok (.ifCond .ne 7, 3) := by decide +kernel
theorem dX5_look_82 : decode cX5_look 82 = .ok (.iload_n 3, 1) := by decide +kernel
theorem dX5_look_83 : decode cX5_look 83 = .ok (.goto 9, 3) := by decide +kernel
theorem dX5_look_86 : decode cX5_look 86 = .ok (.aload_n 0, 1) := by decide +kernel
theorem dX5_look_87 : decode cX5_look 87 = .ok (.getfield 35, 3) := by decide +kernel
theorem dX5_look_90 : decode cX5_look 90 = .ok (.iload_n 3, 1) := by decide +kernel
theorem dX5_look_91 : decode cX5_look 91 = .ok (.iand, 1) := by decide +kernel
theorem dX5_look_92 : decode cX5_look 92 = .ok (.putfield 35, 3) := by decide +kernel
theorem dX5_look_95 : decode cX5_look 95 = .ok (.aload_n 0, 1) := by decide +kernel
theorem dX5_look_96 : decode cX5_look 96 = .ok (.dup, 1) := by decide +kernel
theorem dX5_look_97 : decode cX5_look 97 = .ok (.getfield 29, 3) := by decide +kernel
theorem dX5_look_100 : decode cX5_look 100 = .ok (.iconst 1, 1) := by decide +kernel
theorem dX5_look_101 : decode cX5_look 101 = .ok (.iadd, 1) := by decide +kernel
theorem dX5_look_102 : decode cX5_look 102 = .ok (.putfield 29, 3) := by decide +kernel
theorem dX5_look_105 : decode cX5_look 105 = .ok (.aload_n 0, 1) := by decide +kernel
theorem dX5_look_106 : decode cX5_look 106 = .ok (.iload_n 3, 1) := by decide +kernel
theorem dX5_look_107 : decode cX5_look 107 = .ok (.invokevirtual 42, 3) := by decide +kernel
theorem dX5_look_110 : decode cX5_look 110 = .ok (.iinc 3 1, 3) := by decide +kernel
theorem dX5_look_113 : decode cX5_look 113 = .ok (.goto (-71), 3) := by decide +kernel
theorem dX5_look_116 : decode cX5_look 116 = .ok (.return_, 1) := by decide +kernel
theorem dX5_countIdeas_0 : decode cX5_countIdeas 0 = .ok (.iconst 0, 1) := by decide +kernel
theorem dX5_countIdeas_1 : decode cX5_countIdeas 1 = .ok (.istore_n 2, 1) := by decide +kernel
theorem dX5_countIdeas_2 : decode cX5_countIdeas 2 = .ok (.iload_n 2, 1) := by decide +kernel
theorem dX5_countIdeas_3 : decode cX5_countIdeas 3 = .ok (.bipush 8, 2) := by decide +kernel
theorem dX5_countIdeas_5 : decode cX5_countIdeas 5 = .ok (.if_icmp .ge 23, 3) := by decide +kernel
theorem dX5_countIdeas_8 : decode cX5_countIdeas 8 = .ok (.aload_n 0, 1) := by decide +kernel
theorem dX5_countIdeas_9 : decode cX5_countIdeas 9 = .ok (.getfield 22, 3) := by decide +kernel
theorem dX5_countIdeas_12 : decode cX5_countIdeas 12 = .ok (.iload_n 2, 1) := by decide +kernel
theorem dX5_countIdeas_13 : decode cX5_countIdeas 13 = .ok (.dup2, 1) := by decide +kernel
theorem dX5_countIdeas_14 : decode cX5_countIdeas 14 = .ok (.iaload, 1) := by decide +kernel
theorem dX5_countIdeas_15 : decode cX5_countIdeas 15 = .ok (.iload_n 1, 1) := by decide +kernel
theorem dX5_countIdeas_16 : decode cX5_countIdeas 16 = .ok (.iload_n 2, 1) := by decide +kernel
theorem dX5_countIdeas_17 : decode cX5_countIdeas 17 = .ok (.ishr, 1) := by decide +kernel
theorem dX5_countIdeas_18 : decode cX5_countIdeas 18 = .ok (.iconst 1, 1) := by decide +kernel
theorem dX5_countIdeas_19 : decode cX5_countIdeas 19 = .ok (.iand, 1) := by decide +kernel
theorem dX5_countIdeas_20 : decode cX5_countIdeas 20 = .ok (.iadd, 1) := by decide +kernel
theorem dX5_countIdeas_21 : decode cX5_countIdeas 21 = .ok (.iastore, 1) := by decide +kernel
theorem dX5_countIdeas_22 : decode cX5_countIdeas 22 = .ok (.iinc 2 1, 3) := by decide +kernel
theorem dX5_countIdeas_25 : decode cX5_countIdeas 25 = .ok (.goto (-23), 3) := by decide +kernel
theorem dX5_countIdeas_28 : decode cX5_countIdeas 28 = .ok (.return_, 1) := by decide +kernel
theorem dX5_fits_0 : decode cX5_fits 0 = .ok (.iconst 0, 1) := by decide +kernel
theorem dX5_fits_1 : decode cX5_fits 1 = .ok (.istore_n 2, 1) := by decide +kernel
theorem dX5_fits_2 : decode cX5_fits 2 = .ok (.iload_n 2, 1) := by decide +kernel
theorem dX5_fits_3 : decode cX5_fits 3 = .ok (.aload_n 0, 1) := by decide +kernel
theorem dX5_fits_4 : decode cX5_fits 4 = .ok (.getfield 25, 3) := by decide +kernel
theorem dX5_fits_7 : decode cX5_fits 7 = .ok (.if_icmp .ge 43, 3) := by decide +kernel
theorem dX5_fits_10 : decode cX5_fits 10 = .ok (.iload_n 1, 1) := by decide +kernel
theorem dX5_fits_11 : decode cX5_fits 11 = .ok (.aload_n 0, 1) := by decide +kernel
theorem dX5_fits_12 : decode cX5_fits 12 = .ok (.getfield 9, 3) := by decide +kernel
theorem dX5_fits_15 : decode cX5_fits 15 = .ok (.iload_n 2, 1) := by decide +kernel
theorem dX5_fits_16 : decode cX5_fits 16 = .ok (.iaload, 1) := by decide +kernel
theorem dX5_fits_17 : decode cX5_fits 17 = .ok (.iand, 1) := by decide +kernel
theorem dX5_fits_18 : decode cX5_fits 18 = .ok (.aload_n 0, 1) := by decide +kernel
theorem dX5_fits_19 : decode cX5_fits 19 = .ok (.getfield 9, 3) := by decide +kernel
theorem dX5_fits_22 : decode cX5_fits 22 = .ok (.iload_n 2, 1) := by decide +kernel
theorem dX5_fits_23 : decode cX5_fits 23 = .ok (.iaload, 1) := by decide +kernel
theorem dX5_fits_24 : decode cX5_fits 24 = .ok (.aload_n 0, 1) := by decide +kernel
theorem dX5_fits_25 : decode cX5_fits 25 = .ok (.getfield 15, 3) := by decide +kernel
theorem dX5_fits_28 : decode cX5_fits 28 = .ok (.iload_n 2, 1) := by decide +kernel
theorem dX5_fits_29 : decode cX5_fits 29 = .ok (.iaload, 1) := by decide +kernel
theorem dX5_fits_30 : decode cX5_fits 30 = .ok (.invokestatic 46, 3) := by decide +kernel
theorem dX5_fits_33 : decode cX5_fits 33 = .ok (.aload_n 0, 1) := by decide +kernel
theorem dX5_fits_34 : decode cX5_fits 34 = .ok (.getfield 18, 3) := by decide +kernel
theorem dX5_fits_37 : decode cX5_fits 37 = .ok (.iload_n 2, 1) := by decide +kernel
theorem dX5_fits_38 : decode cX5_fits 38 = .ok (.baload, 1) := by decide +kernel
theorem dX5_fits_39 : decode cX5_fits 39 = .ok (.if_icmp .eq 5, 3) := by decide +kernel
theorem dX5_fits_42 : decode cX5_fits 42 = .ok (.iconst 0, 1) := by decide +kernel
theorem dX5_fits_43 : decode cX5_fits 43 = .ok (.ireturn, 1) := by decide +kernel
theorem dX5_fits_44 : decode cX5_fits 44 = .ok (.iinc 2 1, 3) := by decide +kernel
theorem dX5_fits_47 : decode cX5_fits 47 = .ok (.goto (-45), 3) := by decide +kernel
theorem dX5_fits_50 : decode cX5_fits 50 = .ok (.iconst 1, 1) := by decide +kernel
theorem dX5_fits_51 : decode cX5_fits 51 = .ok (.ireturn, 1) := by decide +kernel
theorem dX5_isSo_0 : decode cX5_isSo 0 = .ok (.iload_n 2, 1) := by decide +kernel
theorem dX5_isSo_1 : decode cX5_isSo 1 = .ok (.lookupswitch 48 #[(0, 27), (1, 37)], 27) := by decide +kernel
theorem dX5_isSo_28 : decode cX5_isSo 28 = .ok (.iload_n 0, 1) := by decide +kernel
theorem dX5_isSo_29 : decode cX5_isSo 29 = .ok (.ifCond .eq 7, 3) := by decide +kernel
theorem dX5_isSo_32 : decode cX5_isSo 32 = .ok (.iconst 1, 1) := by decide +kernel
theorem dX5_isSo_33 : decode cX5_isSo 33 = .ok (.goto 4, 3) := by decide +kernel
theorem dX5_isSo_36 : decode cX5_isSo 36 = .ok (.iconst 0, 1) := by decide +kernel
theorem dX5_isSo_37 : decode cX5_isSo 37 = .ok (.ireturn, 1) := by decide +kernel
theorem dX5_isSo_38 : decode cX5_isSo 38 = .ok (.iload_n 0, 1) := by decide +kernel
theorem dX5_isSo_39 : decode cX5_isSo 39 = .ok (.iload_n 1, 1) := by decide +kernel
theorem dX5_isSo_40 : decode cX5_isSo 40 = .ok (.if_icmp .ne 7, 3) := by decide +kernel
theorem dX5_isSo_43 : decode cX5_isSo 43 = .ok (.iconst 1, 1) := by decide +kernel
theorem dX5_isSo_44 : decode cX5_isSo 44 = .ok (.goto 4, 3) := by decide +kernel
theorem dX5_isSo_47 : decode cX5_isSo 47 = .ok (.iconst 0, 1) := by decide +kernel
theorem dX5_isSo_48 : decode cX5_isSo 48 = .ok (.ireturn, 1) := by decide +kernel
theorem dX5_isSo_49 : decode cX5_isSo 49 = .ok (.iload_n 0, 1) := by decide +kernel
theorem dX5_isSo_50 : decode cX5_isSo 50 = .ok (.invokestatic 50, 3) := by decide +kernel
theorem dX5_isSo_53 : decode cX5_isSo 53 = .ok (.iload_n 2, 1) := by decide +kernel
theorem dX5_isSo_54 : decode cX5_isSo 54 = .ok (.iconst 2, 1) := by decide +kernel
theorem dX5_isSo_55 : decode cX5_isSo 55 = .ok (.isub, 1) := by decide +kernel
theorem dX5_isSo_56 : decode cX5_isSo 56 = .ok (.if_icmp .ne 7, 3) := by decide +kernel
theorem dX5_isSo_59 : decode cX5_isSo 59 = .ok (.iconst 1, 1) := by decide +kernel
theorem dX5_isSo_60 : decode cX5_isSo 60 = .ok (.goto 4, 3) := by decide +kernel
theorem dX5_isSo_63 : decode cX5_isSo 63 = .ok (.iconst 0, 1) := by decide +kernel
theorem dX5_isSo_64 : decode cX5_isSo 64 = .ok (.ireturn, 1) := by decide +kernel
theorem dX5_bestIdea_0 : decode cX5_bestIdea 0 = .ok (.iconst (-1), 1) := by decide +kernel
theorem dX5_bestIdea_1 : decode cX5_bestIdea 1 = .ok (.istore_n 1, 1) := by decide +kernel
theorem dX5_bestIdea_2 : decode cX5_bestIdea 2 = .ok (.aload_n 0, 1) := by decide +kernel
theorem dX5_bestIdea_3 : decode cX5_bestIdea 3 = .ok (.getfield 29, 3) := by decide +kernel
theorem dX5_bestIdea_6 : decode cX5_bestIdea 6 = .ok (.istore_n 2, 1) := by decide +kernel
theorem dX5_bestIdea_7 : decode cX5_bestIdea 7 = .ok (.iconst 0, 1) := by decide +kernel
theorem dX5_bestIdea_8 : decode cX5_bestIdea 8 = .ok (.istore_n 3, 1) := by decide +kernel
theorem dX5_bestIdea_9 : decode cX5_bestIdea 9 = .ok (.iload_n 3, 1) := by decide +kernel
theorem dX5_bestIdea_10 : decode cX5_bestIdea 10 = .ok (.bipush 8, 2) := by decide +kernel
theorem dX5_bestIdea_12 : decode cX5_bestIdea 12 = .ok (.if_icmp .ge 42, 3) := by decide +kernel
theorem dX5_bestIdea_15 : decode cX5_bestIdea 15 = .ok (.aload_n 0, 1) := by decide +kernel
theorem dX5_bestIdea_16 : decode cX5_bestIdea 16 = .ok (.getfield 22, 3) := by decide +kernel
theorem dX5_bestIdea_19 : decode cX5_bestIdea 19 = .ok (.iload_n 3, 1) := by decide +kernel
theorem dX5_bestIdea_20 : decode cX5_bestIdea 20 = .ok (.iaload, 1) := by decide +kernel
theorem dX5_bestIdea_21 : decode cX5_bestIdea 21 = .ok (.aload_n 0, 1) := by decide +kernel
theorem dX5_bestIdea_22 : decode cX5_bestIdea 22 = .ok (.getfield 29, 3) := by decide +kernel
theorem dX5_bestIdea_25 : decode cX5_bestIdea 25 = .ok (.aload_n 0, 1) := by decide +kernel
theorem dX5_bestIdea_26 : decode cX5_bestIdea 26 = .ok (.getfield 22, 3) := by decide +kernel
theorem dX5_bestIdea_29 : decode cX5_bestIdea 29 = .ok (.iload_n 3, 1) := by decide +kernel
theorem dX5_bestIdea_30 : decode cX5_bestIdea 30 = .ok (.iaload, 1) := by decide +kernel
theorem dX5_bestIdea_31 : decode cX5_bestIdea 31 = .ok (.isub, 1) := by decide +kernel
theorem dX5_bestIdea_32 : decode cX5_bestIdea 32 = .ok (.invokestatic 56, 3) := by decide +kernel
theorem dX5_bestIdea_35 : decode cX5_bestIdea 35 = .ok (.istore 4, 2) := by decide +kernel
theorem dX5_bestIdea_37 : decode cX5_bestIdea 37 = .ok (.iload 4, 2) := by decide +kernel
theorem dX5_bestIdea_39 : decode cX5_bestIdea 39 = .ok (.iload_n 2, 1) := by decide +kernel
theorem dX5_bestIdea_40 : decode cX5_bestIdea 40 = .ok (.if_icmp .ge 8, 3) := by decide +kernel
theorem dX5_bestIdea_43 : decode cX5_bestIdea 43 = .ok (.iload_n 3, 1) := by decide +kernel
theorem dX5_bestIdea_44 : decode cX5_bestIdea 44 = .ok (.istore_n 1, 1) := by decide +kernel
theorem dX5_bestIdea_45 : decode cX5_bestIdea 45 = .ok (.iload 4, 2) := by decide +kernel
theorem dX5_bestIdea_47 : decode cX5_bestIdea 47 = .ok (.istore_n 2, 1) := by decide +kernel
theorem dX5_bestIdea_48 : decode cX5_bestIdea 48 = .ok (.iinc 3 1, 3) := by decide +kernel
theorem dX5_bestIdea_51 : decode cX5_bestIdea 51 = .ok (.goto (-42), 3) := by decide +kernel
theorem dX5_bestIdea_54 : decode cX5_bestIdea 54 = .ok (.iload_n 1, 1) := by decide +kernel
theorem dX5_bestIdea_55 : decode cX5_bestIdea 55 = .ok (.ireturn, 1) := by decide +kernel
theorem dX6_init_0 : decode cX6_init 0 = .ok (.aload_n 0, 1) := by decide +kernel
theorem dX6_init_1 : decode cX6_init 1 = .ok (.invokespecial 3, 3) := by decide +kernel
theorem dX6_init_4 : decode cX6_init 4 = .ok (.aload_n 0, 1) := by decide +kernel
theorem dX6_init_5 : decode cX6_init 5 = .ok (.sipush 240, 3) := by decide +kernel
theorem dX6_init_8 : decode cX6_init 8 = .ok (.newarray .int, 2) := by decide +kernel
theorem dX6_init_10 : decode cX6_init 10 = .ok (.putfield 9, 3) := by decide +kernel
theorem dX6_init_13 : decode cX6_init 13 = .ok (.aload_n 0, 1) := by decide +kernel
theorem dX6_init_14 : decode cX6_init 14 = .ok (.iconst (-1), 1) := by decide +kernel
theorem dX6_init_15 : decode cX6_init 15 = .ok (.putfield 15, 3) := by decide +kernel
theorem dX6_init_18 : decode cX6_init 18 = .ok (.aload_n 0, 1) := by decide +kernel
theorem dX6_init_19 : decode cX6_init 19 = .ok (.new 19, 3) := by decide +kernel
theorem dX6_init_22 : decode cX6_init 22 = .ok (.dup, 1) := by decide +kernel
theorem dX6_init_23 : decode cX6_init 23 = .ok (.invokespecial 21, 3) := by decide +kernel
theorem dX6_init_26 : decode cX6_init 26 = .ok (.putfield 22, 3) := by decide +kernel
theorem dX6_init_29 : decode cX6_init 29 = .ok (.return_, 1) := by decide +kernel
theorem dX6_append_0 : decode cX6_append 0 = .ok (.aload_n 0, 1) := by decide +kernel
theorem dX6_append_1 : decode cX6_append 1 = .ok (.getfield 26, 3) := by decide +kernel
theorem dX6_append_4 : decode cX6_append 4 = .ok (.sipush 240, 3) := by decide +kernel
theorem dX6_append_7 : decode cX6_append 7 = .ok (.if_icmp .lt 5, 3) := by decide +kernel
theorem dX6_append_10 : decode cX6_append 10 = .ok (.iconst 0, 1) := by decide +kernel
theorem dX6_append_11 : decode cX6_append 11 = .ok (.ireturn, 1) := by decide +kernel
theorem dX6_append_12 : decode cX6_append 12 = .ok (.aload_n 0, 1) := by decide +kernel
theorem dX6_append_13 : decode cX6_append 13 = .ok (.getfield 9, 3) := by decide +kernel
theorem dX6_append_16 : decode cX6_append 16 = .ok (.aload_n 0, 1) := by decide +kernel
theorem dX6_append_17 : decode cX6_append 17 = .ok (.getfield 26, 3) := by decide +kernel
theorem dX6_append_20 : decode cX6_append 20 = .ok (.iload_n 1, 1) := by decide +kernel
theorem dX6_append_21 : decode cX6_append 21 = .ok (.iastore, 1) := by decide +kernel
theorem dX6_append_22 : decode cX6_append 22 = .ok (.aload_n 0, 1) := by decide +kernel
theorem dX6_append_23 : decode cX6_append 23 = .ok (.dup, 1) := by decide +kernel
theorem dX6_append_24 : decode cX6_append 24 = .ok (.getfield 26, 3) := by decide +kernel
theorem dX6_append_27 : decode cX6_append 27 = .ok (.iconst 1, 1) := by decide +kernel
theorem dX6_append_28 : decode cX6_append 28 = .ok (.iadd, 1) := by decide +kernel
theorem dX6_append_29 : decode cX6_append 29 = .ok (.putfield 26, 3) := by decide +kernel
theorem dX6_append_32 : decode cX6_append 32 = .ok (.iconst 1, 1) := by decide +kernel
theorem dX6_append_33 : decode cX6_append 33 = .ok (.ireturn, 1) := by decide +kernel
theorem dX6_exchange_0 : decode cX6_exchange 0 = .ok (.aload_n 0, 1) := by decide +kernel
theorem dX6_exchange_1 : decode cX6_exchange 1 = .ok (.getfield 22, 3) := by decide +kernel
theorem dX6_exchange_4 : decode cX6_exchange 4 = .ok (.astore_n 2, 1) := by decide +kernel
theorem dX6_exchange_5 : decode cX6_exchange 5 = .ok (.aload_n 0, 1) := by decide +kernel
theorem dX6_exchange_6 : decode cX6_exchange 6 = .ok (.aload_n 1, 1) := by decide +kernel
theorem dX6_exchange_7 : decode cX6_exchange 7 = .ok (.putfield 22, 3) := by decide +kernel
theorem dX6_exchange_10 : decode cX6_exchange 10 = .ok (.aload_n 2, 1) := by decide +kernel
theorem dX6_exchange_11 : decode cX6_exchange 11 = .ok (.areturn, 1) := by decide +kernel
theorem dX6_read_0 : decode cX6_read 0 = .ok (.aload_n 0, 1) := by decide +kernel
theorem dX6_read_1 : decode cX6_read 1 = .ok (.getfield 22, 3) := by decide +kernel
theorem dX6_read_4 : decode cX6_read 4 = .ok (.invokevirtual 29, 3) := by decide +kernel
theorem dX6_read_7 : decode cX6_read 7 = .ok (.aload_n 0, 1) := by decide +kernel
theorem dX6_read_8 : decode cX6_read 8 = .ok (.iconst 0, 1) := by decide +kernel
theorem dX6_read_9 : decode cX6_read 9 = .ok (.putfield 32, 3) := by decide +kernel
theorem dX6_read_12 : decode cX6_read 12 = .ok (.aload_n 0, 1) := by decide +kernel
theorem dX6_read_13 : decode cX6_read 13 = .ok (.iconst 0, 1) := by decide +kernel
theorem dX6_read_14 : decode cX6_read 14 = .ok (.putfield 35, 3) := by decide +kernel
theorem dX6_read_17 : decode cX6_read 17 = .ok (.aload_n 0, 1) := by decide +kernel
theorem dX6_read_18 : decode cX6_read 18 = .ok (.iconst (-1), 1) := by decide +kernel
theorem dX6_read_19 : decode cX6_read 19 = .ok (.putfield 15, 3) := by decide +kernel
theorem dX6_read_22 : decode cX6_read 22 = .ok (.iconst 0, 1) := by decide +kernel
theorem dX6_read_23 : decode cX6_read 23 = .ok (.istore_n 1, 1) := by decide +kernel
theorem dX6_read_24 : decode cX6_read 24 = .ok (.iload_n 1, 1) := by decide +kernel
theorem dX6_read_25 : decode cX6_read 25 = .ok (.sipush 240, 3) := by decide +kernel
theorem dX6_read_28 : decode cX6_read 28 = .ok (.if_icmp .gt 38, 3) := by decide +kernel
theorem dX6_read_31 : decode cX6_read 31 = .ok (.aload_n 0, 1) := by decide +kernel
theorem dX6_read_32 : decode cX6_read 32 = .ok (.invokevirtual 38, 3) := by decide +kernel
theorem dX6_read_35 : decode cX6_read 35 = .ok (.aload_n 0, 1) := by decide +kernel
theorem dX6_read_36 : decode cX6_read 36 = .ok (.getfield 32, 3) := by decide +kernel
theorem dX6_read_39 : decode cX6_read 39 = .ok (.aload_n 0, 1) := by decide +kernel
theorem dX6_read_40 : decode cX6_read 40 = .ok (.getfield 26, 3) := by decide +kernel
theorem dX6_read_43 : decode cX6_read 43 = .ok (.if_icmp .ge 23, 3) := by decide +kernel
theorem dX6_read_46 : decode cX6_read 46 = .ok (.aload_n 0, 1) := by decide +kernel
theorem dX6_read_47 : decode cX6_read 47 = .ok (.getfield 35, 3) := by decide +kernel
theorem dX6_read_50 : decode cX6_read 50 = .ok (.ifCond .eq 6, 3) := by decide +kernel
theorem dX6_read_53 : decode cX6_read 53 = .ok (.goto 13, 3) := by decide +kernel
theorem dX6_read_56 : decode cX6_read 56 = .ok (.aload_n 0, 1) := by decide +kernel
theorem dX6_read_57 : decode cX6_read 57 = .ok (.invokevirtual 41, 3) := by decide +kernel
theorem dX6_read_60 : decode cX6_read 60 = .ok (.iinc 1 1, 3) := by decide +kernel
theorem dX6_read_63 : decode cX6_read 63 = .ok (.goto (-39), 3) := by decide +kernel
theorem dX6_read_66 : decode cX6_read 66 = .ok (.aload_n 0, 1) := by decide +kernel
theorem dX6_read_67 : decode cX6_read 67 = .ok (.getfield 35, 3) := by decide +kernel
theorem dX6_read_70 : decode cX6_read 70 = .ok (.ifCond .ne 7, 3) := by decide +kernel
theorem dX6_read_73 : decode cX6_read 73 = .ok (.iconst 1, 1) := by decide +kernel
theorem dX6_read_74 : decode cX6_read 74 = .ok (.goto 4, 3) := by decide +kernel
theorem dX6_read_77 : decode cX6_read 77 = .ok (.iconst 0, 1) := by decide +kernel
theorem dX6_read_78 : decode cX6_read 78 = .ok (.ireturn, 1) := by decide +kernel
theorem dX6_readClause_0 : decode cX6_readClause 0 = .ok (.aload_n 0, 1) := by decide +kernel
theorem dX6_readClause_1 : decode cX6_readClause 1 = .ok (.invokevirtual 44, 3) := by decide +kernel
theorem dX6_readClause_4 : decode cX6_readClause 4 = .ok (.istore_n 1, 1) := by decide +kernel
theorem dX6_readClause_5 : decode cX6_readClause 5 = .ok (.aload_n 0, 1) := by decide +kernel
theorem dX6_readClause_6 : decode cX6_readClause 6 = .ok (.iload_n 1, 1) := by decide +kernel
theorem dX6_readClause_7 : decode cX6_readClause 7 = .ok (.invokevirtual 48, 3) := by decide +kernel
theorem dX6_readClause_10 : decode cX6_readClause 10 = .ok (.aload_n 0, 1) := by decide +kernel
theorem dX6_readClause_11 : decode cX6_readClause 11 = .ok (.getfield 35, 3) := by decide +kernel
theorem dX6_readClause_14 : decode cX6_readClause 14 = .ok (.ifCond .eq 4, 3) := by decide +kernel
theorem dX6_readClause_17 : decode cX6_readClause 17 = .ok (.return_, 1) := by decide +kernel
theorem dX6_readClause_18 : decode cX6_readClause 18 = .ok (.aload_n 0, 1) := by decide +kernel
theorem dX6_readClause_19 : decode cX6_readClause 19 = .ok (.dup, 1) := by decide +kernel
theorem dX6_readClause_20 : decode cX6_readClause 20 = .ok (.getfield 32, 3) := by decide +kernel
theorem dX6_readClause_23 : decode cX6_readClause 23 = .ok (.iconst 1, 1) := by decide +kernel
theorem dX6_readClause_24 : decode cX6_readClause 24 = .ok (.iadd, 1) := by decide +kernel
theorem dX6_readClause_25 : decode cX6_readClause 25 = .ok (.putfield 32, 3) := by decide +kernel
theorem dX6_readClause_28 : decode cX6_readClause 28 = .ok (.iload_n 1, 1) := by decide +kernel
theorem dX6_readClause_29 : decode cX6_readClause 29 = .ok (.tableswitch 110 100 114 #[96, 110, 110, 75, 110, 82, 89, 110, 110, 110, 110, 110, 110, 110, 103], 75) := by decide +kernel
theorem dX6_readClause_104 : decode cX6_readClause 104 = .ok (.aload_n 0, 1) := by decide +kernel
theorem dX6_readClause_105 : decode cX6_readClause 105 = .ok (.invokevirtual 52, 3) := by decide +kernel
theorem dX6_readClause_108 : decode cX6_readClause 108 = .ok (.goto 35, 3) := by decide +kernel
theorem dX6_readClause_111 : decode cX6_readClause 111 = .ok (.aload_n 0, 1) := by decide +kernel
theorem dX6_readClause_112 : decode cX6_readClause 112 = .ok (.invokevirtual 55, 3) := by decide +kernel
theorem dX6_readClause_115 : decode cX6_readClause 115 = .ok (.goto 28, 3) := by decide +kernel
theorem dX6_readClause_118 : decode cX6_readClause 118 = .ok (.aload_n 0, 1) := by decide +kernel
theorem dX6_readClause_119 : decode cX6_readClause 119 = .ok (.invokevirtual 58, 3) := by decide +kernel
theorem dX6_readClause_122 : decode cX6_readClause 122 = .ok (.goto 21, 3) := by decide +kernel
theorem dX6_readClause_125 : decode cX6_readClause 125 = .ok (.aload_n 0, 1) := by decide +kernel
theorem dX6_readClause_126 : decode cX6_readClause 126 = .ok (.invokevirtual 61, 3) := by decide +kernel
theorem dX6_readClause_129 : decode cX6_readClause 129 = .ok (.goto 14, 3) := by decide +kernel
theorem dX6_readClause_132 : decode cX6_readClause 132 = .ok (.aload_n 0, 1) := by decide +kernel
theorem dX6_readClause_133 : decode cX6_readClause 133 = .ok (.invokevirtual 64, 3) := by decide +kernel
theorem dX6_readClause_136 : decode cX6_readClause 136 = .ok (.goto 7, 3) := by decide +kernel
theorem dX6_readClause_139 : decode cX6_readClause 139 = .ok (.aload_n 0, 1) := by decide +kernel
theorem dX6_readClause_140 : decode cX6_readClause 140 = .ok (.invokevirtual 67, 3) := by decide +kernel
theorem dX6_readClause_143 : decode cX6_readClause 143 = .ok (.aload_n 0, 1) := by decide +kernel
theorem dX6_readClause_144 : decode cX6_readClause 144 = .ok (.invokevirtual 70, 3) := by decide +kernel
theorem dX6_readClause_147 : decode cX6_readClause 147 = .ok (.return_, 1) := by decide +kernel
theorem dX6_checkWord_0 : decode cX6_checkWord 0 = .ok (.iload_n 1, 1) := by decide +kernel
theorem dX6_checkWord_1 : decode cX6_checkWord 1 = .ok (.bipush 103, 2) := by decide +kernel
theorem dX6_checkWord_3 : decode cX6_checkWord 3 = .ok (.if_icmp .eq 33, 3) := by decide +kernel
theorem dX6_checkWord_6 : decode cX6_checkWord 6 = .ok (.iload_n 1, 1) := by decide +kernel
theorem dX6_checkWord_7 : decode cX6_checkWord 7 = .ok (.bipush 105, 2) := by decide +kernel
theorem dX6_checkWord_9 : decode cX6_checkWord 9 = .ok (.if_icmp .eq 27, 3) := by decide +kernel
theorem dX6_checkWord_12 : decode cX6_checkWord 12 = .ok (.iload_n 1, 1) := by decide +kernel
theorem dX6_checkWord_13 : decode cX6_checkWord 13 = .ok (.bipush 106, 2) := by decide +kernel
theorem dX6_checkWord_15 : decode cX6_checkWord 15 = .ok (.if_icmp .eq 21, 3) := by decide +kernel
theorem dX6_checkWord_18 : decode cX6_checkWord 18 = .ok (.iload_n 1, 1) := by decide +kernel
theorem dX6_checkWord_19 : decode cX6_checkWord 19 = .ok (.bipush 100, 2) := by decide +kernel
theorem dX6_checkWord_21 : decode cX6_checkWord 21 = .ok (.if_icmp .eq 15, 3) := by decide +kernel
theorem dX6_checkWord_24 : decode cX6_checkWord 24 = .ok (.iload_n 1, 1) := by decide +kernel
theorem dX6_checkWord_25 : decode cX6_checkWord 25 = .ok (.bipush 114, 2) := by decide +kernel
theorem dX6_checkWord_27 : decode cX6_checkWord 27 = .ok (.if_icmp .eq 9, 3) := by decide +kernel
theorem dX6_checkWord_30 : decode cX6_checkWord 30 = .ok (.iload_n 1, 1) := by decide +kernel
theorem dX6_checkWord_31 : decode cX6_checkWord 31 = .ok (.bipush 116, 2) := by decide +kernel
theorem dX6_checkWord_33 : decode cX6_checkWord 33 = .ok (.if_icmp .ne 7, 3) := by decide +kernel
theorem dX6_checkWord_36 : decode cX6_checkWord 36 = .ok (.iconst 1, 1) := by decide +kernel
theorem dX6_checkWord_37 : decode cX6_checkWord 37 = .ok (.goto 4, 3) := by decide +kernel
theorem dX6_checkWord_40 : decode cX6_checkWord 40 = .ok (.iconst 0, 1) := by decide +kernel
theorem dX6_checkWord_41 : decode cX6_checkWord 41 = .ok (.istore_n 2, 1) := by decide +kernel
theorem dX6_checkWord_42 : decode cX6_checkWord 42 = .ok (.iload_n 2, 1) := by decide +kernel
theorem dX6_checkWord_43 : decode cX6_checkWord 43 = .ok (.ifCond .eq 19, 3) := by decide +kernel
theorem dX6_checkWord_46 : decode cX6_checkWord 46 = .ok (.aload_n 0, 1) := by decide +kernel
theorem dX6_checkWord_47 : decode cX6_checkWord 47 = .ok (.getfield 22, 3) := by decide +kernel
theorem dX6_checkWord_50 : decode cX6_checkWord 50 = .ok (.getfield 73, 3) := by decide +kernel
theorem dX6_checkWord_53 : decode cX6_checkWord 53 = .ok (.ifCond .ne 18, 3) := by decide +kernel
theorem dX6_checkWord_56 : decode cX6_checkWord 56 = .ok (.iload_n 1, 1) := by decide +kernel
theorem dX6_checkWord_57 : decode cX6_checkWord 57 = .ok (.bipush 103, 2) := by decide +kernel
theorem dX6_checkWord_59 : decode cX6_checkWord 59 = .ok (.if_icmp .eq 12, 3) := by decide +kernel
theorem dX6_checkWord_62 : decode cX6_checkWord 62 = .ok (.aload_n 0, 1) := by decide +kernel
theorem dX6_checkWord_63 : decode cX6_checkWord 63 = .ok (.iconst 1, 1) := by decide +kernel
theorem dX6_checkWord_64 : decode cX6_checkWord 64 = .ok (.aload_n 0, 1) := by decide +kernel
theorem dX6_checkWord_65 : decode cX6_checkWord 65 = .ok (.getfield 32, 3) := by decide +kernel
theorem dX6_checkWord_68 : decode cX6_checkWord 68 = .ok (.invokevirtual 77, 3) := by decide +kernel
theorem dX6_checkWord_71 : decode cX6_checkWord 71 = .ok (.iload_n 1, 1) := by decide +kernel
theorem dX6_checkWord_72 : decode cX6_checkWord 72 = .ok (.bipush 103, 2) := by decide +kernel
theorem dX6_checkWord_74 : decode cX6_checkWord 74 = .ok (.if_icmp .ne 13, 3) := by decide +kernel
theorem dX6_checkWord_77 : decode cX6_checkWord 77 = .ok (.aload_n 0, 1) := by decide +kernel
theorem dX6_checkWord_78 : decode cX6_checkWord 78 = .ok (.getfield 22, 3) := by decide +kernel
theorem dX6_checkWord_81 : decode cX6_checkWord 81 = .ok (.getfield 73, 3) := by decide +kernel
theorem dX6_checkWord_84 : decode cX6_checkWord 84 = .ok (.ifCond .ne 74, 3) := by decide +kernel
theorem dX6_checkWord_87 : decode cX6_checkWord 87 = .ok (.iload_n 1, 1) := by decide +kernel
theorem dX6_checkWord_88 : decode cX6_checkWord 88 = .ok (.bipush 105, 2) := by decide +kernel
theorem dX6_checkWord_90 : decode cX6_checkWord 90 = .ok (.if_icmp .ne 15, 3) := by decide +kernel
theorem dX6_checkWord_93 : decode cX6_checkWord 93 = .ok (.aload_n 0, 1) := by decide +kernel
theorem dX6_checkWord_94 : decode cX6_checkWord 94 = .ok (.getfield 22, 3) := by decide +kernel
theorem dX6_checkWord_97 : decode cX6_checkWord 97 = .ok (.getfield 81, 3) := by decide +kernel
theorem dX6_checkWord_100 : decode cX6_checkWord 100 = .ok (.bipush 8, 2) := by decide +kernel
theorem dX6_checkWord_102 : decode cX6_checkWord 102 = .ok (.if_icmp .ge 56, 3) := by decide +kernel
theorem dX6_checkWord_105 : decode cX6_checkWord 105 = .ok (.iload_n 1, 1) := by decide +kernel
theorem dX6_checkWord_106 : decode cX6_checkWord 106 = .ok (.bipush 106, 2) := by decide +kernel
theorem dX6_checkWord_108 : decode cX6_checkWord 108 = .ok (.if_icmp .ne 15, 3) := by decide +kernel
theorem dX6_checkWord_111 : decode cX6_checkWord 111 = .ok (.aload_n 0, 1) := by decide +kernel
theorem dX6_checkWord_112 : decode cX6_checkWord 112 = .ok (.getfield 22, 3) := by decide +kernel
theorem dX6_checkWord_115 : decode cX6_checkWord 115 = .ok (.getfield 84, 3) := by decide +kernel
theorem dX6_checkWord_118 : decode cX6_checkWord 118 = .ok (.bipush 10, 2) := by decide +kernel
theorem dX6_checkWord_120 : decode cX6_checkWord 120 = .ok (.if_icmp .ge 38, 3) := by decide +kernel
theorem dX6_checkWord_123 : decode cX6_checkWord 123 = .ok (.iload_n 1, 1) := by decide +kernel
theorem dX6_checkWord_124 : decode cX6_checkWord 124 = .ok (.bipush 100, 2) := by decide +kernel
theorem dX6_checkWord_126 : decode cX6_checkWord 126 = .ok (.if_icmp .ne 15, 3) := by decide +kernel
theorem dX6_checkWord_129 : decode cX6_checkWord 129 = .ok (.aload_n 0, 1) := by decide +kernel
theorem dX6_checkWord_130 : decode cX6_checkWord 130 = .ok (.getfield 22, 3) := by decide +kernel
theorem dX6_checkWord_133 : decode cX6_checkWord 133 = .ok (.getfield 87, 3) := by decide +kernel
theorem dX6_checkWord_136 : decode cX6_checkWord 136 = .ok (.bipush 10, 2) := by decide +kernel
theorem dX6_checkWord_138 : decode cX6_checkWord 138 = .ok (.if_icmp .ge 20, 3) := by decide +kernel
theorem dX6_checkWord_141 : decode cX6_checkWord 141 = .ok (.iload_n 1, 1) := by decide +kernel
theorem dX6_checkWord_142 : decode cX6_checkWord 142 = .ok (.bipush 116, 2) := by decide +kernel
theorem dX6_checkWord_144 : decode cX6_checkWord 144 = .ok (.if_icmp .ne 18, 3) := by decide +kernel
theorem dX6_checkWord_147 : decode cX6_checkWord 147 = .ok (.aload_n 0, 1) := by decide +kernel
theorem dX6_checkWord_148 : decode cX6_checkWord 148 = .ok (.getfield 22, 3) := by decide +kernel
theorem dX6_checkWord_151 : decode cX6_checkWord 151 = .ok (.getfield 90, 3) := by decide +kernel
theorem dX6_checkWord_154 : decode cX6_checkWord 154 = .ok (.iconst 5, 1) := by decide +kernel
theorem dX6_checkWord_155 : decode cX6_checkWord 155 = .ok (.if_icmp .lt 7, 3) := by decide +kernel
theorem dX6_checkWord_158 : decode cX6_checkWord 158 = .ok (.iconst 1, 1) := by decide +kernel
theorem dX6_checkWord_159 : decode cX6_checkWord 159 = .ok (.goto 4, 3) := by decide +kernel
theorem dX6_checkWord_162 : decode cX6_checkWord 162 = .ok (.iconst 0, 1) := by decide +kernel
theorem dX6_checkWord_163 : decode cX6_checkWord 163 = .ok (.istore_n 3, 1) := by decide +kernel
theorem dX6_checkWord_164 : decode cX6_checkWord 164 = .ok (.iload_n 3, 1) := by decide +kernel
theorem dX6_checkWord_165 : decode cX6_checkWord 165 = .ok (.ifCond .eq 12, 3) := by decide +kernel
theorem dX6_checkWord_168 : decode cX6_checkWord 168 = .ok (.aload_n 0, 1) := by decide +kernel
theorem dX6_checkWord_169 : decode cX6_checkWord 169 = .ok (.iconst 3, 1) := by decide +kernel
theorem dX6_checkWord_170 : decode cX6_checkWord 170 = .ok (.aload_n 0, 1) := by decide +kernel
theorem dX6_checkWord_171 : decode cX6_checkWord 171 = .ok (.getfield 32, 3) := by decide +kernel
theorem dX6_checkWord_174 : decode cX6_checkWord 174 = .ok (.invokevirtual 77, 3) := by decide +kernel
theorem dX6_checkWord_177 : decode cX6_checkWord 177 = .ok (.return_, 1) := by decide +kernel
theorem dX6_readGate_0 : decode cX6_readGate 0 = .ok (.aload_n 0, 1) := by decide +kernel
theorem dX6_readGate_1 : decode cX6_readGate 1 = .ok (.getfield 22, 3) := by decide +kernel
theorem dX6_readGate_4 : decode cX6_readGate 4 = .ok (.aload_n 0, 1) := by decide +kernel
theorem dX6_readGate_5 : decode cX6_readGate 5 = .ok (.iconst 1, 1) := by decide +kernel
theorem dX6_readGate_6 : decode cX6_readGate 6 = .ok (.sipush 999, 3) := by decide +kernel
theorem dX6_readGate_9 : decode cX6_readGate 9 = .ok (.invokevirtual 93, 3) := by decide +kernel
theorem dX6_readGate_12 : decode cX6_readGate 12 = .ok (.putfield 97, 3) := by decide +kernel
theorem dX6_readGate_15 : decode cX6_readGate 15 = .ok (.aload_n 0, 1) := by decide +kernel
theorem dX6_readGate_16 : decode cX6_readGate 16 = .ok (.getfield 22, 3) := by decide +kernel
theorem dX6_readGate_19 : decode cX6_readGate 19 = .ok (.aload_n 0, 1) := by decide +kernel
theorem dX6_readGate_20 : decode cX6_readGate 20 = .ok (.iconst 0, 1) := by decide +kernel
theorem dX6_readGate_21 : decode cX6_readGate 21 = .ok (.bipush 99, 2) := by decide +kernel
theorem dX6_readGate_23 : decode cX6_readGate 23 = .ok (.invokevirtual 93, 3) := by decide +kernel
theorem dX6_readGate_26 : decode cX6_readGate 26 = .ok (.putfield 100, 3) := by decide +kernel
theorem dX6_readGate_29 : decode cX6_readGate 29 = .ok (.aload_n 0, 1) := by decide +kernel
theorem dX6_readGate_30 : decode cX6_readGate 30 = .ok (.getfield 22, 3) := by decide +kernel
theorem dX6_readGate_33 : decode cX6_readGate 33 = .ok (.iconst 1, 1) := by decide +kernel
theorem dX6_readGate_34 : decode cX6_readGate 34 = .ok (.putfield 73, 3) := by decide +kernel
theorem dX6_readGate_37 : decode cX6_readGate 37 = .ok (.return_, 1) := by decide +kernel
theorem dX6_readIdea_0 : decode cX6_readIdea 0 = .ok (.aload_n 0, 1) := by decide +kernel
theorem dX6_readIdea_1 : decode cX6_readIdea 1 = .ok (.iconst 1, 1) := by decide +kernel
theorem dX6_readIdea_2 : decode cX6_readIdea 2 = .ok (.bipush 99, 2) := by decide +kernel
theorem dX6_readIdea_4 : decode cX6_readIdea 4 = .ok (.invokevirtual 93, 3) := by decide +kernel
theorem dX6_readIdea_7 : decode cX6_readIdea 7 = .ok (.istore_n 1, 1) := by decide +kernel
theorem dX6_readIdea_8 : decode cX6_readIdea 8 = .ok (.aload_n 0, 1) := by decide +kernel
theorem dX6_readIdea_9 : decode cX6_readIdea 9 = .ok (.getfield 35, 3) := by decide +kernel
theorem dX6_readIdea_12 : decode cX6_readIdea 12 = .ok (.ifCond .ne 32, 3) := by decide +kernel
theorem dX6_readIdea_15 : decode cX6_readIdea 15 = .ok (.aload_n 0, 1) := by decide +kernel
theorem dX6_readIdea_16 : decode cX6_readIdea 16 = .ok (.getfield 22, 3) := by decide +kernel
theorem dX6_readIdea_19 : decode cX6_readIdea 19 = .ok (.getfield 103, 3) := by decide +kernel
theorem dX6_readIdea_22 : decode cX6_readIdea 22 = .ok (.aload_n 0, 1) := by decide +kernel
theorem dX6_readIdea_23 : decode cX6_readIdea 23 = .ok (.getfield 22, 3) := by decide +kernel
theorem dX6_readIdea_26 : decode cX6_readIdea 26 = .ok (.getfield 81, 3) := by decide +kernel
theorem dX6_readIdea_29 : decode cX6_readIdea 29 = .ok (.iload_n 1, 1) := by decide +kernel
theorem dX6_readIdea_30 : decode cX6_readIdea 30 = .ok (.iastore, 1) := by decide +kernel
theorem dX6_readIdea_31 : decode cX6_readIdea 31 = .ok (.aload_n 0, 1) := by decide +kernel
theorem dX6_readIdea_32 : decode cX6_readIdea 32 = .ok (.getfield 22, 3) := by decide +kernel
theorem dX6_readIdea_35 : decode cX6_readIdea 35 = .ok (.dup, 1) := by decide +kernel
theorem dX6_readIdea_36 : decode cX6_readIdea 36 = .ok (.getfield 81, 3) := by decide +kernel
theorem dX6_readIdea_39 : decode cX6_readIdea 39 = .ok (.iconst 1, 1) := by decide +kernel
theorem dX6_readIdea_40 : decode cX6_readIdea 40 = .ok (.iadd, 1) := by decide +kernel
theorem dX6_readIdea_41 : decode cX6_readIdea 41 = .ok (.putfield 81, 3) := by decide +kernel
theorem dX6_readIdea_44 : decode cX6_readIdea 44 = .ok (.return_, 1) := by decide +kernel
theorem dX6_readJoining_0 : decode cX6_readJoining 0 = .ok (.aload_n 0, 1) := by decide +kernel
theorem dX6_readJoining_1 : decode cX6_readJoining 1 = .ok (.invokevirtual 106, 3) := by decide +kernel
theorem dX6_readJoining_4 : decode cX6_readJoining 4 = .ok (.istore_n 1, 1) := by decide +kernel
theorem dX6_readJoining_5 : decode cX6_readJoining 5 = .ok (.aload_n 0, 1) := by decide +kernel
theorem dX6_readJoining_6 : decode cX6_readJoining 6 = .ok (.invokevirtual 106, 3) := by decide +kernel
theorem dX6_readJoining_9 : decode cX6_readJoining 9 = .ok (.istore_n 2, 1) := by decide +kernel
theorem dX6_readJoining_10 : decode cX6_readJoining 10 = .ok (.aload_n 0, 1) := by decide +kernel
theorem dX6_readJoining_11 : decode cX6_readJoining 11 = .ok (.invokevirtual 106, 3) := by decide +kernel
theorem dX6_readJoining_14 : decode cX6_readJoining 14 = .ok (.istore_n 3, 1) := by decide +kernel
theorem dX6_readJoining_15 : decode cX6_readJoining 15 = .ok (.iload_n 3, 1) := by decide +kernel
theorem dX6_readJoining_16 : decode cX6_readJoining 16 = .ok (.iload_n 1, 1) := by decide +kernel
theorem dX6_readJoining_17 : decode cX6_readJoining 17 = .ok (.if_icmp .eq 8, 3) := by decide +kernel
theorem dX6_readJoining_20 : decode cX6_readJoining 20 = .ok (.iload_n 3, 1) := by decide +kernel
theorem dX6_readJoining_21 : decode cX6_readJoining 21 = .ok (.iload_n 2, 1) := by decide +kernel
theorem dX6_readJoining_22 : decode cX6_readJoining 22 = .ok (.if_icmp .ne 12, 3) := by decide +kernel
theorem dX6_readJoining_25 : decode cX6_readJoining 25 = .ok (.aload_n 0, 1) := by decide +kernel
theorem dX6_readJoining_26 : decode cX6_readJoining 26 = .ok (.iconst 4, 1) := by decide +kernel
theorem dX6_readJoining_27 : decode cX6_readJoining 27 = .ok (.aload_n 0, 1) := by decide +kernel
theorem dX6_readJoining_28 : decode cX6_readJoining 28 = .ok (.getfield 109, 3) := by decide +kernel
theorem dX6_readJoining_31 : decode cX6_readJoining 31 = .ok (.invokevirtual 77, 3) := by decide +kernel
theorem dX6_readJoining_34 : decode cX6_readJoining 34 = .ok (.aload_n 0, 1) := by decide +kernel
theorem dX6_readJoining_35 : decode cX6_readJoining 35 = .ok (.getfield 35, 3) := by decide +kernel
theorem dX6_readJoining_38 : decode cX6_readJoining 38 = .ok (.ifCond .ne 64, 3) := by decide +kernel
theorem dX6_readJoining_41 : decode cX6_readJoining 41 = .ok (.aload_n 0, 1) := by decide +kernel
theorem dX6_readJoining_42 : decode cX6_readJoining 42 = .ok (.getfield 22, 3) := by decide +kernel
theorem dX6_readJoining_45 : decode cX6_readJoining 45 = .ok (.getfield 112, 3) := by decide +kernel
theorem dX6_readJoining_48 : decode cX6_readJoining 48 = .ok (.aload_n 0, 1) := by decide +kernel
theorem dX6_readJoining_49 : decode cX6_readJoining 49 = .ok (.getfield 22, 3) := by decide +kernel
theorem dX6_readJoining_52 : decode cX6_readJoining 52 = .ok (.getfield 84, 3) := by decide +kernel
theorem dX6_readJoining_55 : decode cX6_readJoining 55 = .ok (.iload_n 1, 1) := by decide +kernel
theorem dX6_readJoining_56 : decode cX6_readJoining 56 = .ok (.iastore, 1) := by decide +kernel
theorem dX6_readJoining_57 : decode cX6_readJoining 57 = .ok (.aload_n 0, 1) := by decide +kernel
theorem dX6_readJoining_58 : decode cX6_readJoining 58 = .ok (.getfield 22, 3) := by decide +kernel
theorem dX6_readJoining_61 : decode cX6_readJoining 61 = .ok (.getfield 115, 3) := by decide +kernel
theorem dX6_readJoining_64 : decode cX6_readJoining 64 = .ok (.aload_n 0, 1) := by decide +kernel
theorem dX6_readJoining_65 : decode cX6_readJoining 65 = .ok (.getfield 22, 3) := by decide +kernel
theorem dX6_readJoining_68 : decode cX6_readJoining 68 = .ok (.getfield 84, 3) := by decide +kernel
theorem dX6_readJoining_71 : decode cX6_readJoining 71 = .ok (.iload_n 2, 1) := by decide +kernel
theorem dX6_readJoining_72 : decode cX6_readJoining 72 = .ok (.iastore, 1) := by decide +kernel
theorem dX6_readJoining_73 : decode cX6_readJoining 73 = .ok (.aload_n 0, 1) := by decide +kernel
theorem dX6_readJoining_74 : decode cX6_readJoining 74 = .ok (.getfield 22, 3) := by decide +kernel
theorem dX6_readJoining_77 : decode cX6_readJoining 77 = .ok (.getfield 118, 3) := by decide +kernel
theorem dX6_readJoining_80 : decode cX6_readJoining 80 = .ok (.aload_n 0, 1) := by decide +kernel
theorem dX6_readJoining_81 : decode cX6_readJoining 81 = .ok (.getfield 22, 3) := by decide +kernel
theorem dX6_readJoining_84 : decode cX6_readJoining 84 = .ok (.getfield 84, 3) := by decide +kernel
theorem dX6_readJoining_87 : decode cX6_readJoining 87 = .ok (.iload_n 3, 1) := by decide +kernel
theorem dX6_readJoining_88 : decode cX6_readJoining 88 = .ok (.iastore, 1) := by decide +kernel
theorem dX6_readJoining_89 : decode cX6_readJoining 89 = .ok (.aload_n 0, 1) := by decide +kernel
theorem dX6_readJoining_90 : decode cX6_readJoining 90 = .ok (.getfield 22, 3) := by decide +kernel
theorem dX6_readJoining_93 : decode cX6_readJoining 93 = .ok (.dup, 1) := by decide +kernel
theorem dX6_readJoining_94 : decode cX6_readJoining 94 = .ok (.getfield 84, 3) := by decide +kernel
theorem dX6_readJoining_97 : decode cX6_readJoining 97 = .ok (.iconst 1, 1) := by decide +kernel
theorem dX6_readJoining_98 : decode cX6_readJoining 98 = .ok (.iadd, 1) := by decide +kernel
theorem dX6_readJoining_99 : decode cX6_readJoining 99 = .ok (.putfield 84, 3) := by decide +kernel
theorem dX6_readJoining_102 : decode cX6_readJoining 102 = .ok (.return_, 1) := by decide +kernel
theorem dX6_readTalk_0 : decode cX6_readTalk 0 = .ok (.aload_n 0, 1) := by decide +kernel
theorem dX6_readTalk_1 : decode cX6_readTalk 1 = .ok (.invokevirtual 106, 3) := by decide +kernel
theorem dX6_readTalk_4 : decode cX6_readTalk 4 = .ok (.istore_n 1, 1) := by decide +kernel
theorem dX6_readTalk_5 : decode cX6_readTalk 5 = .ok (.aload_n 0, 1) := by decide +kernel
theorem dX6_readTalk_6 : decode cX6_readTalk 6 = .ok (.invokevirtual 106, 3) := by decide +kernel
theorem dX6_readTalk_9 : decode cX6_readTalk 9 = .ok (.istore_n 2, 1) := by decide +kernel
theorem dX6_readTalk_10 : decode cX6_readTalk 10 = .ok (.iload_n 1, 1) := by decide +kernel
theorem dX6_readTalk_11 : decode cX6_readTalk 11 = .ok (.iload_n 2, 1) := by decide +kernel
theorem dX6_readTalk_12 : decode cX6_readTalk 12 = .ok (.if_icmp .eq 24, 3) := by decide +kernel
theorem dX6_readTalk_15 : decode cX6_readTalk 15 = .ok (.aload_n 0, 1) := by decide +kernel
theorem dX6_readTalk_16 : decode cX6_readTalk 16 = .ok (.getfield 22, 3) := by decide +kernel
theorem dX6_readTalk_19 : decode cX6_readTalk 19 = .ok (.getfield 103, 3) := by decide +kernel
theorem dX6_readTalk_22 : decode cX6_readTalk 22 = .ok (.iload_n 2, 1) := by decide +kernel
theorem dX6_readTalk_23 : decode cX6_readTalk 23 = .ok (.iaload, 1) := by decide +kernel
theorem dX6_readTalk_24 : decode cX6_readTalk 24 = .ok (.aload_n 0, 1) := by decide +kernel
theorem dX6_readTalk_25 : decode cX6_readTalk 25 = .ok (.getfield 22, 3) := by decide +kernel
theorem dX6_readTalk_28 : decode cX6_readTalk 28 = .ok (.getfield 103, 3) := by decide +kernel
theorem dX6_readTalk_31 : decode cX6_readTalk 31 = .ok (.iload_n 1, 1) := by decide +kernel
theorem dX6_readTalk_32 : decode cX6_readTalk 32 = .ok (.iaload, 1) := by decide +kernel
theorem dX6_readTalk_33 : decode cX6_readTalk 33 = .ok (.if_icmp .le 12, 3) := by decide +kernel
theorem dX6_readTalk_36 : decode cX6_readTalk 36 = .ok (.aload_n 0, 1) := by decide +kernel
theorem dX6_readTalk_37 : decode cX6_readTalk 37 = .ok (.iconst 4, 1) := by decide +kernel
theorem dX6_readTalk_38 : decode cX6_readTalk 38 = .ok (.aload_n 0, 1) := by decide +kernel
theorem dX6_readTalk_39 : decode cX6_readTalk 39 = .ok (.getfield 109, 3) := by decide +kernel
theorem dX6_readTalk_42 : decode cX6_readTalk 42 = .ok (.invokevirtual 77, 3) := by decide +kernel
theorem dX6_readTalk_45 : decode cX6_readTalk 45 = .ok (.aload_n 0, 1) := by decide +kernel
theorem dX6_readTalk_46 : decode cX6_readTalk 46 = .ok (.iconst 1, 1) := by decide +kernel
theorem dX6_readTalk_47 : decode cX6_readTalk 47 = .ok (.bipush 99, 2) := by decide +kernel
theorem dX6_readTalk_49 : decode cX6_readTalk 49 = .ok (.invokevirtual 93, 3) := by decide +kernel
theorem dX6_readTalk_52 : decode cX6_readTalk 52 = .ok (.istore_n 3, 1) := by decide +kernel
theorem dX6_readTalk_53 : decode cX6_readTalk 53 = .ok (.aload_n 0, 1) := by decide +kernel
theorem dX6_readTalk_54 : decode cX6_readTalk 54 = .ok (.getfield 35, 3) := by decide +kernel
theorem dX6_readTalk_57 : decode cX6_readTalk 57 = .ok (.ifCond .ne 64, 3) := by decide +kernel
theorem dX6_readTalk_60 : decode cX6_readTalk 60 = .ok (.aload_n 0, 1) := by decide +kernel
theorem dX6_readTalk_61 : decode cX6_readTalk 61 = .ok (.getfield 22, 3) := by decide +kernel
theorem dX6_readTalk_64 : decode cX6_readTalk 64 = .ok (.getfield 121, 3) := by decide +kernel
theorem dX6_readTalk_67 : decode cX6_readTalk 67 = .ok (.aload_n 0, 1) := by decide +kernel
theorem dX6_readTalk_68 : decode cX6_readTalk 68 = .ok (.getfield 22, 3) := by decide +kernel
theorem dX6_readTalk_71 : decode cX6_readTalk 71 = .ok (.getfield 87, 3) := by decide +kernel
theorem dX6_readTalk_74 : decode cX6_readTalk 74 = .ok (.iload_n 1, 1) := by decide +kernel
theorem dX6_readTalk_75 : decode cX6_readTalk 75 = .ok (.iastore, 1) := by decide +kernel
theorem dX6_readTalk_76 : decode cX6_readTalk 76 = .ok (.aload_n 0, 1) := by decide +kernel
theorem dX6_readTalk_77 : decode cX6_readTalk 77 = .ok (.getfield 22, 3) := by decide +kernel
theorem dX6_readTalk_80 : decode cX6_readTalk 80 = .ok (.getfield 124, 3) := by decide +kernel
theorem dX6_readTalk_83 : decode cX6_readTalk 83 = .ok (.aload_n 0, 1) := by decide +kernel
theorem dX6_readTalk_84 : decode cX6_readTalk 84 = .ok (.getfield 22, 3) := by decide +kernel
theorem dX6_readTalk_87 : decode cX6_readTalk 87 = .ok (.getfield 87, 3) := by decide +kernel
theorem dX6_readTalk_90 : decode cX6_readTalk 90 = .ok (.iload_n 2, 1) := by decide +kernel
theorem dX6_readTalk_91 : decode cX6_readTalk 91 = .ok (.iastore, 1) := by decide +kernel
theorem dX6_readTalk_92 : decode cX6_readTalk 92 = .ok (.aload_n 0, 1) := by decide +kernel
theorem dX6_readTalk_93 : decode cX6_readTalk 93 = .ok (.getfield 22, 3) := by decide +kernel
theorem dX6_readTalk_96 : decode cX6_readTalk 96 = .ok (.getfield 127, 3) := by decide +kernel
theorem dX6_readTalk_99 : decode cX6_readTalk 99 = .ok (.aload_n 0, 1) := by decide +kernel
theorem dX6_readTalk_100 : decode cX6_readTalk 100 = .ok (.getfield 22, 3) := by decide +kernel
theorem dX6_readTalk_103 : decode cX6_readTalk 103 = .ok (.getfield 87, 3) := by decide +kernel
theorem dX6_readTalk_106 : decode cX6_readTalk 106 = .ok (.iload_n 3, 1) := by decide +kernel
theorem dX6_readTalk_107 : decode cX6_readTalk 107 = .ok (.iastore, 1) := by decide +kernel
theorem dX6_readTalk_108 : decode cX6_readTalk 108 = .ok (.aload_n 0, 1) := by decide +kernel
theorem dX6_readTalk_109 : decode cX6_readTalk 109 = .ok (.getfield 22, 3) := by decide +kernel
theorem dX6_readTalk_112 : decode cX6_readTalk 112 = .ok (.dup, 1) := by decide +kernel
theorem dX6_readTalk_113 : decode cX6_readTalk 113 = .ok (.getfield 87, 3) := by decide +kernel
theorem dX6_readTalk_116 : decode cX6_readTalk 116 = .ok (.iconst 1, 1) := by decide +kernel
theorem dX6_readTalk_117 : decode cX6_readTalk 117 = .ok (.iadd, 1) := by decide +kernel
theorem dX6_readTalk_118 : decode cX6_readTalk 118 = .ok (.putfield 87, 3) := by decide +kernel
theorem dX6_readTalk_121 : decode cX6_readTalk 121 = .ok (.return_, 1) := by decide +kernel
theorem dX6_readRegistered_0 : decode cX6_readRegistered 0 = .ok (.aload_n 0, 1) := by decide +kernel
theorem dX6_readRegistered_1 : decode cX6_readRegistered 1 = .ok (.invokevirtual 106, 3) := by decide +kernel
theorem dX6_readRegistered_4 : decode cX6_readRegistered 4 = .ok (.istore_n 1, 1) := by decide +kernel
theorem dX6_readRegistered_5 : decode cX6_readRegistered 5 = .ok (.aload_n 0, 1) := by decide +kernel
theorem dX6_readRegistered_6 : decode cX6_readRegistered 6 = .ok (.getfield 22, 3) := by decide +kernel
theorem dX6_readRegistered_9 : decode cX6_readRegistered 9 = .ok (.getfield 130, 3) := by decide +kernel
theorem dX6_readRegistered_12 : decode cX6_readRegistered 12 = .ok (.iconst 1, 1) := by decide +kernel
theorem dX6_readRegistered_13 : decode cX6_readRegistered 13 = .ok (.iload_n 1, 1) := by decide +kernel
theorem dX6_readRegistered_14 : decode cX6_readRegistered 14 = .ok (.ishl, 1) := by decide +kernel
theorem dX6_readRegistered_15 : decode cX6_readRegistered 15 = .ok (.iand, 1) := by decide +kernel
theorem dX6_readRegistered_16 : decode cX6_readRegistered 16 = .ok (.ifCond .eq 12, 3) := by decide +kernel
theorem dX6_readRegistered_19 : decode cX6_readRegistered 19 = .ok (.aload_n 0, 1) := by decide +kernel
theorem dX6_readRegistered_20 : decode cX6_readRegistered 20 = .ok (.iconst 4, 1) := by decide +kernel
theorem dX6_readRegistered_21 : decode cX6_readRegistered 21 = .ok (.aload_n 0, 1) := by decide +kernel
theorem dX6_readRegistered_22 : decode cX6_readRegistered 22 = .ok (.getfield 109, 3) := by decide +kernel
theorem dX6_readRegistered_25 : decode cX6_readRegistered 25 = .ok (.invokevirtual 77, 3) := by decide +kernel
theorem dX6_readRegistered_28 : decode cX6_readRegistered 28 = .ok (.aload_n 0, 1) := by decide +kernel
theorem dX6_readRegistered_29 : decode cX6_readRegistered 29 = .ok (.getfield 35, 3) := by decide +kernel
theorem dX6_readRegistered_32 : decode cX6_readRegistered 32 = .ok (.ifCond .ne 18, 3) := by decide +kernel
theorem dX6_readRegistered_35 : decode cX6_readRegistered 35 = .ok (.aload_n 0, 1) := by decide +kernel
theorem dX6_readRegistered_36 : decode cX6_readRegistered 36 = .ok (.getfield 22, 3) := by decide +kernel
theorem dX6_readRegistered_39 : decode cX6_readRegistered 39 = .ok (.dup, 1) := by decide +kernel
theorem dX6_readRegistered_40 : decode cX6_readRegistered 40 = .ok (.getfield 130, 3) := by decide +kernel
theorem dX6_readRegistered_43 : decode cX6_readRegistered 43 = .ok (.iconst 1, 1) := by decide +kernel
theorem dX6_readRegistered_44 : decode cX6_readRegistered 44 = .ok (.iload_n 1, 1) := by decide +kernel
theorem dX6_readRegistered_45 : decode cX6_readRegistered 45 = .ok (.ishl, 1) := by decide +kernel
theorem dX6_readRegistered_46 : decode cX6_readRegistered 46 = .ok (.ior, 1) := by decide +kernel
theorem dX6_readRegistered_47 : decode cX6_readRegistered 47 = .ok (.putfield 130, 3) := by decide +kernel
theorem dX6_readRegistered_50 : decode cX6_readRegistered 50 = .ok (.return_, 1) := by decide +kernel
theorem dX6_readTraveller_0 : decode cX6_readTraveller 0 = .ok (.aload_n 0, 1) := by decide +kernel
theorem dX6_readTraveller_1 : decode cX6_readTraveller 1 = .ok (.iconst 0, 1) := by decide +kernel
theorem dX6_readTraveller_2 : decode cX6_readTraveller 2 = .ok (.iconst 1, 1) := by decide +kernel
theorem dX6_readTraveller_3 : decode cX6_readTraveller 3 = .ok (.aload_n 0, 1) := by decide +kernel
theorem dX6_readTraveller_4 : decode cX6_readTraveller 4 = .ok (.getfield 22, 3) := by decide +kernel
theorem dX6_readTraveller_7 : decode cX6_readTraveller 7 = .ok (.getfield 81, 3) := by decide +kernel
theorem dX6_readTraveller_10 : decode cX6_readTraveller 10 = .ok (.ishl, 1) := by decide +kernel
theorem dX6_readTraveller_11 : decode cX6_readTraveller 11 = .ok (.iconst 1, 1) := by decide +kernel
theorem dX6_readTraveller_12 : decode cX6_readTraveller 12 = .ok (.isub, 1) := by decide +kernel
theorem dX6_readTraveller_13 : decode cX6_readTraveller 13 = .ok (.invokevirtual 93, 3) := by decide +kernel
theorem dX6_readTraveller_16 : decode cX6_readTraveller 16 = .ok (.istore_n 1, 1) := by decide +kernel
theorem dX6_readTraveller_17 : decode cX6_readTraveller 17 = .ok (.aload_n 0, 1) := by decide +kernel
theorem dX6_readTraveller_18 : decode cX6_readTraveller 18 = .ok (.getfield 35, 3) := by decide +kernel
theorem dX6_readTraveller_21 : decode cX6_readTraveller 21 = .ok (.ifCond .ne 32, 3) := by decide +kernel
theorem dX6_readTraveller_24 : decode cX6_readTraveller 24 = .ok (.aload_n 0, 1) := by decide +kernel
theorem dX6_readTraveller_25 : decode cX6_readTraveller 25 = .ok (.getfield 22, 3) := by decide +kernel
theorem dX6_readTraveller_28 : decode cX6_readTraveller 28 = .ok (.getfield 133, 3) := by decide +kernel
theorem dX6_readTraveller_31 : decode cX6_readTraveller 31 = .ok (.aload_n 0, 1) := by decide +kernel
theorem dX6_readTraveller_32 : decode cX6_readTraveller 32 = .ok (.getfield 22, 3) := by decide +kernel
theorem dX6_readTraveller_35 : decode cX6_readTraveller 35 = .ok (.getfield 90, 3) := by decide +kernel
theorem dX6_readTraveller_38 : decode cX6_readTraveller 38 = .ok (.iload_n 1, 1) := by decide +kernel
theorem dX6_readTraveller_39 : decode cX6_readTraveller 39 = .ok (.iastore, 1) := by decide +kernel
theorem dX6_readTraveller_40 : decode cX6_readTraveller 40 = .ok (.aload_n 0, 1) := by decide +kernel
theorem dX6_readTraveller_41 : decode cX6_readTraveller 41 = .ok (.getfield 22, 3) := by decide +kernel
theorem dX6_readTraveller_44 : decode cX6_readTraveller 44 = .ok (.dup, 1) := by decide +kernel
theorem dX6_readTraveller_45 : decode cX6_readTraveller 45 = .ok (.getfield 90, 3) := by decide +kernel
theorem dX6_readTraveller_48 : decode cX6_readTraveller 48 = .ok (.iconst 1, 1) := by decide +kernel
theorem dX6_readTraveller_49 : decode cX6_readTraveller 49 = .ok (.iadd, 1) := by decide +kernel
theorem dX6_readTraveller_50 : decode cX6_readTraveller 50 = .ok (.putfield 90, 3) := by decide +kernel
theorem dX6_readTraveller_53 : decode cX6_readTraveller 53 = .ok (.return_, 1) := by decide +kernel
theorem dX6_readEnd_0 : decode cX6_readEnd 0 = .ok (.aload_n 0, 1) := by decide +kernel
theorem dX6_readEnd_1 : decode cX6_readEnd 1 = .ok (.invokevirtual 38, 3) := by decide +kernel
theorem dX6_readEnd_4 : decode cX6_readEnd 4 = .ok (.aload_n 0, 1) := by decide +kernel
theorem dX6_readEnd_5 : decode cX6_readEnd 5 = .ok (.invokevirtual 44, 3) := by decide +kernel
theorem dX6_readEnd_8 : decode cX6_readEnd 8 = .ok (.bipush 59, 2) := by decide +kernel
theorem dX6_readEnd_10 : decode cX6_readEnd 10 = .ok (.if_icmp .ne 16, 3) := by decide +kernel
theorem dX6_readEnd_13 : decode cX6_readEnd 13 = .ok (.aload_n 0, 1) := by decide +kernel
theorem dX6_readEnd_14 : decode cX6_readEnd 14 = .ok (.dup, 1) := by decide +kernel
theorem dX6_readEnd_15 : decode cX6_readEnd 15 = .ok (.getfield 32, 3) := by decide +kernel
theorem dX6_readEnd_18 : decode cX6_readEnd 18 = .ok (.iconst 1, 1) := by decide +kernel
theorem dX6_readEnd_19 : decode cX6_readEnd 19 = .ok (.iadd, 1) := by decide +kernel
theorem dX6_readEnd_20 : decode cX6_readEnd 20 = .ok (.putfield 32, 3) := by decide +kernel
theorem dX6_readEnd_23 : decode cX6_readEnd 23 = .ok (.goto 12, 3) := by decide +kernel
theorem dX6_readEnd_26 : decode cX6_readEnd 26 = .ok (.aload_n 0, 1) := by decide +kernel
theorem dX6_readEnd_27 : decode cX6_readEnd 27 = .ok (.iconst 1, 1) := by decide +kernel
theorem dX6_readEnd_28 : decode cX6_readEnd 28 = .ok (.aload_n 0, 1) := by decide +kernel
theorem dX6_readEnd_29 : decode cX6_readEnd 29 = .ok (.getfield 32, 3) := by decide +kernel
theorem dX6_readEnd_32 : decode cX6_readEnd 32 = .ok (.invokevirtual 77, 3) := by decide +kernel
theorem dX6_readEnd_35 : decode cX6_readEnd 35 = .ok (.return_, 1) := by decide +kernel
theorem dX6_readToldIdea_0 : decode cX6_readToldIdea 0 = .ok (.aload_n 0, 1) := by decide +kernel
theorem dX6_readToldIdea_1 : decode cX6_readToldIdea 1 = .ok (.iconst 0, 1) := by decide +kernel
theorem dX6_readToldIdea_2 : decode cX6_readToldIdea 2 = .ok (.aload_n 0, 1) := by decide +kernel
theorem dX6_readToldIdea_3 : decode cX6_readToldIdea 3 = .ok (.getfield 22, 3) := by decide +kernel
theorem dX6_readToldIdea_6 : decode cX6_readToldIdea 6 = .ok (.getfield 81, 3) := by decide +kernel
theorem dX6_readToldIdea_9 : decode cX6_readToldIdea 9 = .ok (.iconst 1, 1) := by decide +kernel
theorem dX6_readToldIdea_10 : decode cX6_readToldIdea 10 = .ok (.isub, 1) := by decide +kernel
theorem dX6_readToldIdea_11 : decode cX6_readToldIdea 11 = .ok (.invokevirtual 93, 3) := by decide +kernel
theorem dX6_readToldIdea_14 : decode cX6_readToldIdea 14 = .ok (.ireturn, 1) := by decide +kernel
theorem dX6_readNumber_0 : decode cX6_readNumber 0 = .ok (.aload_n 0, 1) := by decide +kernel
theorem dX6_readNumber_1 : decode cX6_readNumber 1 = .ok (.invokevirtual 38, 3) := by decide +kernel
theorem dX6_readNumber_4 : decode cX6_readNumber 4 = .ok (.aload_n 0, 1) := by decide +kernel
theorem dX6_readNumber_5 : decode cX6_readNumber 5 = .ok (.aload_n 0, 1) := by decide +kernel
theorem dX6_readNumber_6 : decode cX6_readNumber 6 = .ok (.getfield 32, 3) := by decide +kernel
theorem dX6_readNumber_9 : decode cX6_readNumber 9 = .ok (.putfield 109, 3) := by decide +kernel
theorem dX6_readNumber_12 : decode cX6_readNumber 12 = .ok (.iconst 0, 1) := by decide +kernel
theorem dX6_readNumber_13 : decode cX6_readNumber 13 = .ok (.istore_n 3, 1) := by decide +kernel
theorem dX6_readNumber_14 : decode cX6_readNumber 14 = .ok (.aload_n 0, 1) := by decide +kernel
theorem dX6_readNumber_15 : decode cX6_readNumber 15 = .ok (.getfield 32, 3) := by decide +kernel
theorem dX6_readNumber_18 : decode cX6_readNumber 18 = .ok (.aload_n 0, 1) := by decide +kernel
theorem dX6_readNumber_19 : decode cX6_readNumber 19 = .ok (.getfield 26, 3) := by decide +kernel
theorem dX6_readNumber_22 : decode cX6_readNumber 22 = .ok (.if_icmp .ge 45, 3) := by decide +kernel
theorem dX6_readNumber_25 : decode cX6_readNumber 25 = .ok (.aload_n 0, 1) := by decide +kernel
theorem dX6_readNumber_26 : decode cX6_readNumber 26 = .ok (.invokevirtual 44, 3) := by decide +kernel
theorem dX6_readNumber_29 : decode cX6_readNumber 29 = .ok (.invokestatic 136, 3) := by decide +kernel
theorem dX6_readNumber_32 : decode cX6_readNumber 32 = .ok (.ifCond .eq 35, 3) := by decide +kernel
theorem dX6_readNumber_35 : decode cX6_readNumber 35 = .ok (.iload_n 3, 1) := by decide +kernel
theorem dX6_readNumber_36 : decode cX6_readNumber 36 = .ok (.bipush 10, 2) := by decide +kernel
theorem dX6_readNumber_38 : decode cX6_readNumber 38 = .ok (.imul, 1) := by decide +kernel
theorem dX6_readNumber_39 : decode cX6_readNumber 39 = .ok (.aload_n 0, 1) := by decide +kernel
theorem dX6_readNumber_40 : decode cX6_readNumber 40 = .ok (.invokevirtual 44, 3) := by decide +kernel
theorem dX6_readNumber_43 : decode cX6_readNumber 43 = .ok (.iadd, 1) := by decide +kernel
theorem dX6_readNumber_44 : decode cX6_readNumber 44 = .ok (.bipush 48, 2) := by decide +kernel
theorem dX6_readNumber_46 : decode cX6_readNumber 46 = .ok (.isub, 1) := by decide +kernel
theorem dX6_readNumber_47 : decode cX6_readNumber 47 = .ok (.sipush 1000, 3) := by decide +kernel
theorem dX6_readNumber_50 : decode cX6_readNumber 50 = .ok (.invokestatic 140, 3) := by decide +kernel
theorem dX6_readNumber_53 : decode cX6_readNumber 53 = .ok (.istore_n 3, 1) := by decide +kernel
theorem dX6_readNumber_54 : decode cX6_readNumber 54 = .ok (.aload_n 0, 1) := by decide +kernel
theorem dX6_readNumber_55 : decode cX6_readNumber 55 = .ok (.dup, 1) := by decide +kernel
theorem dX6_readNumber_56 : decode cX6_readNumber 56 = .ok (.getfield 32, 3) := by decide +kernel
theorem dX6_readNumber_59 : decode cX6_readNumber 59 = .ok (.iconst 1, 1) := by decide +kernel
theorem dX6_readNumber_60 : decode cX6_readNumber 60 = .ok (.iadd, 1) := by decide +kernel
theorem dX6_readNumber_61 : decode cX6_readNumber 61 = .ok (.putfield 32, 3) := by decide +kernel
theorem dX6_readNumber_64 : decode cX6_readNumber 64 = .ok (.goto (-50), 3) := by decide +kernel
theorem dX6_readNumber_67 : decode cX6_readNumber 67 = .ok (.aload_n 0, 1) := by decide +kernel
theorem dX6_readNumber_68 : decode cX6_readNumber 68 = .ok (.getfield 32, 3) := by decide +kernel
theorem dX6_readNumber_71 : decode cX6_readNumber 71 = .ok (.aload_n 0, 1) := by decide +kernel
theorem dX6_readNumber_72 : decode cX6_readNumber 72 = .ok (.getfield 109, 3) := by decide +kernel
theorem dX6_readNumber_75 : decode cX6_readNumber 75 = .ok (.isub, 1) := by decide +kernel
theorem dX6_readNumber_76 : decode cX6_readNumber 76 = .ok (.istore 4, 2) := by decide +kernel
theorem dX6_readNumber_78 : decode cX6_readNumber 78 = .ok (.iload 4, 2) := by decide +kernel
theorem dX6_readNumber_80 : decode cX6_readNumber 80 = .ok (.ifCond .ne 12, 3) := by decide +kernel
theorem dX6_readNumber_83 : decode cX6_readNumber 83 = .ok (.aload_n 0, 1) := by decide +kernel
theorem dX6_readNumber_84 : decode cX6_readNumber 84 = .ok (.iconst 1, 1) := by decide +kernel
theorem dX6_readNumber_85 : decode cX6_readNumber 85 = .ok (.aload_n 0, 1) := by decide +kernel
theorem dX6_readNumber_86 : decode cX6_readNumber 86 = .ok (.getfield 109, 3) := by decide +kernel
theorem dX6_readNumber_89 : decode cX6_readNumber 89 = .ok (.invokevirtual 77, 3) := by decide +kernel
theorem dX6_readNumber_92 : decode cX6_readNumber 92 = .ok (.iload 4, 2) := by decide +kernel
theorem dX6_readNumber_94 : decode cX6_readNumber 94 = .ok (.iconst 3, 1) := by decide +kernel
theorem dX6_readNumber_95 : decode cX6_readNumber 95 = .ok (.if_icmp .gt 13, 3) := by decide +kernel
theorem dX6_readNumber_98 : decode cX6_readNumber 98 = .ok (.iload_n 3, 1) := by decide +kernel
theorem dX6_readNumber_99 : decode cX6_readNumber 99 = .ok (.iload_n 1, 1) := by decide +kernel
theorem dX6_readNumber_100 : decode cX6_readNumber 100 = .ok (.if_icmp .lt 8, 3) := by decide +kernel
theorem dX6_readNumber_103 : decode cX6_readNumber 103 = .ok (.iload_n 3, 1) := by decide +kernel
theorem dX6_readNumber_104 : decode cX6_readNumber 104 = .ok (.iload_n 2, 1) := by decide +kernel
theorem dX6_readNumber_105 : decode cX6_readNumber 105 = .ok (.if_icmp .le 12, 3) := by decide +kernel
theorem dX6_readNumber_108 : decode cX6_readNumber 108 = .ok (.aload_n 0, 1) := by decide +kernel
theorem dX6_readNumber_109 : decode cX6_readNumber 109 = .ok (.iconst 2, 1) := by decide +kernel
theorem dX6_readNumber_110 : decode cX6_readNumber 110 = .ok (.aload_n 0, 1) := by decide +kernel
theorem dX6_readNumber_111 : decode cX6_readNumber 111 = .ok (.getfield 109, 3) := by decide +kernel
theorem dX6_readNumber_114 : decode cX6_readNumber 114 = .ok (.invokevirtual 77, 3) := by decide +kernel
theorem dX6_readNumber_117 : decode cX6_readNumber 117 = .ok (.aload_n 0, 1) := by decide +kernel
theorem dX6_readNumber_118 : decode cX6_readNumber 118 = .ok (.getfield 35, 3) := by decide +kernel
theorem dX6_readNumber_121 : decode cX6_readNumber 121 = .ok (.ifCond .ne 7, 3) := by decide +kernel
theorem dX6_readNumber_124 : decode cX6_readNumber 124 = .ok (.iload_n 3, 1) := by decide +kernel
theorem dX6_readNumber_125 : decode cX6_readNumber 125 = .ok (.goto 4, 3) := by decide +kernel
theorem dX6_readNumber_128 : decode cX6_readNumber 128 = .ok (.iconst 0, 1) := by decide +kernel
theorem dX6_readNumber_129 : decode cX6_readNumber 129 = .ok (.ireturn, 1) := by decide +kernel
theorem dX6_isFigure_0 : decode cX6_isFigure 0 = .ok (.iload_n 0, 1) := by decide +kernel
theorem dX6_isFigure_1 : decode cX6_isFigure 1 = .ok (.bipush 48, 2) := by decide +kernel
theorem dX6_isFigure_3 : decode cX6_isFigure 3 = .ok (.if_icmp .lt 13, 3) := by decide +kernel
theorem dX6_isFigure_6 : decode cX6_isFigure 6 = .ok (.iload_n 0, 1) := by decide +kernel
theorem dX6_isFigure_7 : decode cX6_isFigure 7 = .ok (.bipush 57, 2) := by decide +kernel
theorem dX6_isFigure_9 : decode cX6_isFigure 9 = .ok (.if_icmp .gt 7, 3) := by decide +kernel
theorem dX6_isFigure_12 : decode cX6_isFigure 12 = .ok (.iconst 1, 1) := by decide +kernel
theorem dX6_isFigure_13 : decode cX6_isFigure 13 = .ok (.goto 4, 3) := by decide +kernel
theorem dX6_isFigure_16 : decode cX6_isFigure 16 = .ok (.iconst 0, 1) := by decide +kernel
theorem dX6_isFigure_17 : decode cX6_isFigure 17 = .ok (.ireturn, 1) := by decide +kernel
theorem dX6_letterHere_0 : decode cX6_letterHere 0 = .ok (.aload_n 0, 1) := by decide +kernel
theorem dX6_letterHere_1 : decode cX6_letterHere 1 = .ok (.getfield 32, 3) := by decide +kernel
theorem dX6_letterHere_4 : decode cX6_letterHere 4 = .ok (.ifCond .lt 36, 3) := by decide +kernel
theorem dX6_letterHere_7 : decode cX6_letterHere 7 = .ok (.aload_n 0, 1) := by decide +kernel
theorem dX6_letterHere_8 : decode cX6_letterHere 8 = .ok (.getfield 32, 3) := by decide +kernel
theorem dX6_letterHere_11 : decode cX6_letterHere 11 = .ok (.aload_n 0, 1) := by decide +kernel
theorem dX6_letterHere_12 : decode cX6_letterHere 12 = .ok (.getfield 26, 3) := by decide +kernel
theorem dX6_letterHere_15 : decode cX6_letterHere 15 = .ok (.if_icmp .ge 25, 3) := by decide +kernel
theorem dX6_letterHere_18 : decode cX6_letterHere 18 = .ok (.aload_n 0, 1) := by decide +kernel
theorem dX6_letterHere_19 : decode cX6_letterHere 19 = .ok (.getfield 32, 3) := by decide +kernel
theorem dX6_letterHere_22 : decode cX6_letterHere 22 = .ok (.sipush 240, 3) := by decide +kernel
theorem dX6_letterHere_25 : decode cX6_letterHere 25 = .ok (.if_icmp .ge 15, 3) := by decide +kernel
theorem dX6_letterHere_28 : decode cX6_letterHere 28 = .ok (.aload_n 0, 1) := by decide +kernel
theorem dX6_letterHere_29 : decode cX6_letterHere 29 = .ok (.getfield 9, 3) := by decide +kernel
theorem dX6_letterHere_32 : decode cX6_letterHere 32 = .ok (.aload_n 0, 1) := by decide +kernel
theorem dX6_letterHere_33 : decode cX6_letterHere 33 = .ok (.getfield 32, 3) := by decide +kernel
theorem dX6_letterHere_36 : decode cX6_letterHere 36 = .ok (.iaload, 1) := by decide +kernel
theorem dX6_letterHere_37 : decode cX6_letterHere 37 = .ok (.goto 4, 3) := by decide +kernel
theorem dX6_letterHere_40 : decode cX6_letterHere 40 = .ok (.iconst (-1), 1) := by decide +kernel
theorem dX6_letterHere_41 : decode cX6_letterHere 41 = .ok (.ireturn, 1) := by decide +kernel
theorem dX6_skipBlanks_0 : decode cX6_skipBlanks 0 = .ok (.aload_n 0, 1) := by decide +kernel
theorem dX6_skipBlanks_1 : decode cX6_skipBlanks 1 = .ok (.getfield 32, 3) := by decide +kernel
theorem dX6_skipBlanks_4 : decode cX6_skipBlanks 4 = .ok (.aload_n 0, 1) := by decide +kernel
theorem dX6_skipBlanks_5 : decode cX6_skipBlanks 5 = .ok (.getfield 26, 3) := by decide +kernel
theorem dX6_skipBlanks_8 : decode cX6_skipBlanks 8 = .ok (.if_icmp .ge 40, 3) := by decide +kernel
theorem dX6_skipBlanks_11 : decode cX6_skipBlanks 11 = .ok (.aload_n 0, 1) := by decide +kernel
theorem dX6_skipBlanks_12 : decode cX6_skipBlanks 12 = .ok (.getfield 32, 3) := by decide +kernel
theorem dX6_skipBlanks_15 : decode cX6_skipBlanks 15 = .ok (.sipush 240, 3) := by decide +kernel
theorem dX6_skipBlanks_18 : decode cX6_skipBlanks 18 = .ok (.if_icmp .ge 30, 3) := by decide +kernel
theorem dX6_skipBlanks_21 : decode cX6_skipBlanks 21 = .ok (.aload_n 0, 1) := by decide +kernel
theorem dX6_skipBlanks_22 : decode cX6_skipBlanks 22 = .ok (.getfield 9, 3) := by decide +kernel
theorem dX6_skipBlanks_25 : decode cX6_skipBlanks 25 = .ok (.aload_n 0, 1) := by decide +kernel
theorem dX6_skipBlanks_26 : decode cX6_skipBlanks 26 = .ok (.getfield 32, 3) := by decide +kernel
theorem dX6_skipBlanks_29 : decode cX6_skipBlanks 29 = .ok (.iaload, 1) := by decide +kernel
theorem dX6_skipBlanks_30 : decode cX6_skipBlanks 30 = .ok (.bipush 32, 2) := by decide +kernel
theorem dX6_skipBlanks_32 : decode cX6_skipBlanks 32 = .ok (.if_icmp .ne 16, 3) := by decide +kernel
theorem dX6_skipBlanks_35 : decode cX6_skipBlanks 35 = .ok (.aload_n 0, 1) := by decide +kernel
theorem dX6_skipBlanks_36 : decode cX6_skipBlanks 36 = .ok (.dup, 1) := by decide +kernel
theorem dX6_skipBlanks_37 : decode cX6_skipBlanks 37 = .ok (.getfield 32, 3) := by decide +kernel
theorem dX6_skipBlanks_40 : decode cX6_skipBlanks 40 = .ok (.iconst 1, 1) := by decide +kernel
theorem dX6_skipBlanks_41 : decode cX6_skipBlanks 41 = .ok (.iadd, 1) := by decide +kernel
theorem dX6_skipBlanks_42 : decode cX6_skipBlanks 42 = .ok (.putfield 32, 3) := by decide +kernel
theorem dX6_skipBlanks_45 : decode cX6_skipBlanks 45 = .ok (.goto (-45), 3) := by decide +kernel
theorem dX6_skipBlanks_48 : decode cX6_skipBlanks 48 = .ok (.return_, 1) := by decide +kernel
theorem dX6_findFault_0 : decode cX6_findFault 0 = .ok (.aload_n 0, 1) := by decide +kernel
theorem dX6_findFault_1 : decode cX6_findFault 1 = .ok (.getfield 35, 3) := by decide +kernel
theorem dX6_findFault_4 : decode cX6_findFault 4 = .ok (.ifCond .ne 13, 3) := by decide +kernel
theorem dX6_findFault_7 : decode cX6_findFault 7 = .ok (.aload_n 0, 1) := by decide +kernel
theorem dX6_findFault_8 : decode cX6_findFault 8 = .ok (.iload_n 1, 1) := by decide +kernel
theorem dX6_findFault_9 : decode cX6_findFault 9 = .ok (.putfield 35, 3) := by decide +kernel
theorem dX6_findFault_12 : decode cX6_findFault 12 = .ok (.aload_n 0, 1) := by decide +kernel
theorem dX6_findFault_13 : decode cX6_findFault 13 = .ok (.iload_n 2, 1) := by decide +kernel
theorem dX6_findFault_14 : decode cX6_findFault 14 = .ok (.putfield 15, 3) := by decide +kernel
theorem dX6_findFault_17 : decode cX6_findFault 17 = .ok (.return_, 1) := by decide +kernel
theorem dJ6_bitCount_0f7a4_0 : decode cJ6_bitCount_0f7a4 0 = .ok (.iload_n 0, 1) := by decide +kernel
theorem dJ6_bitCount_0f7a4_1 : decode cJ6_bitCount_0f7a4 1 = .ok (.iload_n 0, 1) := by decide +kernel
theorem dJ6_bitCount_0f7a4_2 : decode cJ6_bitCount_0f7a4 2 = .ok (.iconst 1, 1) := by decide +kernel
theorem dJ6_bitCount_0f7a4_3 : decode cJ6_bitCount_0f7a4 3 = .ok (.iushr, 1) := by decide +kernel
theorem dJ6_bitCount_0f7a4_4 : decode cJ6_bitCount_0f7a4 4 = .ok (.ldc_w 265, 3) := by decide +kernel
theorem dJ6_bitCount_0f7a4_7 : decode cJ6_bitCount_0f7a4 7 = .ok (.iand, 1) := by decide +kernel
theorem dJ6_bitCount_0f7a4_8 : decode cJ6_bitCount_0f7a4 8 = .ok (.isub, 1) := by decide +kernel
theorem dJ6_bitCount_0f7a4_9 : decode cJ6_bitCount_0f7a4 9 = .ok (.istore_n 0, 1) := by decide +kernel
theorem dJ6_bitCount_0f7a4_10 : decode cJ6_bitCount_0f7a4 10 = .ok (.iload_n 0, 1) := by decide +kernel
theorem dJ6_bitCount_0f7a4_11 : decode cJ6_bitCount_0f7a4 11 = .ok (.ldc_w 266, 3) := by decide +kernel
theorem dJ6_bitCount_0f7a4_14 : decode cJ6_bitCount_0f7a4 14 = .ok (.iand, 1) := by decide +kernel
theorem dJ6_bitCount_0f7a4_15 : decode cJ6_bitCount_0f7a4 15 = .ok (.iload_n 0, 1) := by decide +kernel
theorem dJ6_bitCount_0f7a4_16 : decode cJ6_bitCount_0f7a4 16 = .ok (.iconst 2, 1) := by decide +kernel
theorem dJ6_bitCount_0f7a4_17 : decode cJ6_bitCount_0f7a4 17 = .ok (.iushr, 1) := by decide +kernel
theorem dJ6_bitCount_0f7a4_18 : decode cJ6_bitCount_0f7a4 18 = .ok (.ldc_w 266, 3) := by decide +kernel
theorem dJ6_bitCount_0f7a4_21 : decode cJ6_bitCount_0f7a4 21 = .ok (.iand, 1) := by decide +kernel
theorem dJ6_bitCount_0f7a4_22 : decode cJ6_bitCount_0f7a4 22 = .ok (.iadd, 1) := by decide +kernel
theorem dJ6_bitCount_0f7a4_23 : decode cJ6_bitCount_0f7a4 23 = .ok (.istore_n 0, 1) := by decide +kernel
theorem dJ6_bitCount_0f7a4_24 : decode cJ6_bitCount_0f7a4 24 = .ok (.iload_n 0, 1) := by decide +kernel
theorem dJ6_bitCount_0f7a4_25 : decode cJ6_bitCount_0f7a4 25 = .ok (.iload_n 0, 1) := by decide +kernel
theorem dJ6_bitCount_0f7a4_26 : decode cJ6_bitCount_0f7a4 26 = .ok (.iconst 4, 1) := by decide +kernel
theorem dJ6_bitCount_0f7a4_27 : decode cJ6_bitCount_0f7a4 27 = .ok (.iushr, 1) := by decide +kernel
theorem dJ6_bitCount_0f7a4_28 : decode cJ6_bitCount_0f7a4 28 = .ok (.iadd, 1) := by decide +kernel
theorem dJ6_bitCount_0f7a4_29 : decode cJ6_bitCount_0f7a4 29 = .ok (.ldc_w 267, 3) := by decide +kernel
theorem dJ6_bitCount_0f7a4_32 : decode cJ6_bitCount_0f7a4 32 = .ok (.iand, 1) := by decide +kernel
theorem dJ6_bitCount_0f7a4_33 : decode cJ6_bitCount_0f7a4 33 = .ok (.istore_n 0, 1) := by decide +kernel
theorem dJ6_bitCount_0f7a4_34 : decode cJ6_bitCount_0f7a4 34 = .ok (.iload_n 0, 1) := by decide +kernel
theorem dJ6_bitCount_0f7a4_35 : decode cJ6_bitCount_0f7a4 35 = .ok (.iload_n 0, 1) := by decide +kernel
theorem dJ6_bitCount_0f7a4_36 : decode cJ6_bitCount_0f7a4 36 = .ok (.bipush 8, 2) := by decide +kernel
theorem dJ6_bitCount_0f7a4_38 : decode cJ6_bitCount_0f7a4 38 = .ok (.iushr, 1) := by decide +kernel
theorem dJ6_bitCount_0f7a4_39 : decode cJ6_bitCount_0f7a4 39 = .ok (.iadd, 1) := by decide +kernel
theorem dJ6_bitCount_0f7a4_40 : decode cJ6_bitCount_0f7a4 40 = .ok (.istore_n 0, 1) := by decide +kernel
theorem dJ6_bitCount_0f7a4_41 : decode cJ6_bitCount_0f7a4 41 = .ok (.iload_n 0, 1) := by decide +kernel
theorem dJ6_bitCount_0f7a4_42 : decode cJ6_bitCount_0f7a4 42 = .ok (.iload_n 0, 1) := by decide +kernel
theorem dJ6_bitCount_0f7a4_43 : decode cJ6_bitCount_0f7a4 43 = .ok (.bipush 16, 2) := by decide +kernel
theorem dJ6_bitCount_0f7a4_45 : decode cJ6_bitCount_0f7a4 45 = .ok (.iushr, 1) := by decide +kernel
theorem dJ6_bitCount_0f7a4_46 : decode cJ6_bitCount_0f7a4 46 = .ok (.iadd, 1) := by decide +kernel
theorem dJ6_bitCount_0f7a4_47 : decode cJ6_bitCount_0f7a4 47 = .ok (.istore_n 0, 1) := by decide +kernel
theorem dJ6_bitCount_0f7a4_48 : decode cJ6_bitCount_0f7a4 48 = .ok (.iload_n 0, 1) := by decide +kernel
theorem dJ6_bitCount_0f7a4_49 : decode cJ6_bitCount_0f7a4 49 = .ok (.bipush 63, 2) := by decide +kernel
theorem dJ6_bitCount_0f7a4_51 : decode cJ6_bitCount_0f7a4 51 = .ok (.iand, 1) := by decide +kernel
theorem dJ6_bitCount_0f7a4_52 : decode cJ6_bitCount_0f7a4 52 = .ok (.ireturn, 1) := by decide +kernel
end
section
noncomputable def fX0_append (h : Mm) (l1 : Int32) (l2 : Int32) : Option (Bool × Mm) := (if (h 70 2) < (15 : Int32) then md_ck (md_in (h 70 2) 15) (md_lt (md_up h 71 ((h 70 2)).toNatClampNeg l1) (fun h_1 : Mm => md_ck (md_in (h_1 70 2) 15) (md_lt (md_up h_1 72 ((h_1 70 2)).toNatClampNeg l2) (fun h_2 : Mm => md_lt (md_up h_2 70 2 ((h_2 70 2) + (1 : Int32))) (fun h_3 : Mm => some (true, h_3)))))) else some (false, h))
set_option maxRecDepth 100000 in
set_option maxHeartbeats 4000000 in
theorem ctX0_append (K : Kx) (h : Mm) (l1 : Int32) (l2 : Int32) {a : Bool × Mm} (hF : fX0_append h l1 l2 = some a) : Mt K yX0_append cX0_append 3 (some .boolean) 0 0 SHc [rf K 70, .int l1, .int l2] h (some (.int (md_bi a.1))) a.2 := by
  refine Mt.of hF [(0, rf K 70), (1, .int l1), (2, .int l2)] (by decide) (Nat.le_of_ble_eq_true rfl) rfl (fun Y C N => ?_)
  have C : Cx K Y (0, 0) cX0_append RX0 3 0 0 := C
  unfold fX0_append
  refine mj_aload_n C 0 dX0_append_0 (i := 0) rfl rfl ?_
  refine mj_getI C ff_X0_18 dX0_append_1 sh_70 rfl ?_
  refine mj_bipush C (v := 15) dX0_append_4 rfl ?_
  refine mj_icmp_lt C 11 dX0_append_6 (by decide) ?_ ?_
  · refine mj_aload_n C 0 dX0_append_11 (i := 0) rfl rfl ?_
    refine mj_getR C ff_X0_9 dX0_append_12 sh_70 rfl ?_
    refine mj_aload_n C 0 dX0_append_15 (i := 0) rfl rfl ?_
    refine mj_getI C ff_X0_18 dX0_append_16 sh_70 rfl ?_
    refine mj_iload_n C 1 dX0_append_19 (i := 1) rfl rfl ?_
    refine mj_iast C dX0_append_20 sh_71 (fun h_1 => ?_)
    refine mj_aload_n C 0 dX0_append_21 (i := 0) rfl rfl ?_
    refine mj_getR C ff_X0_15 dX0_append_22 sh_70 rfl ?_
    refine mj_aload_n C 0 dX0_append_25 (i := 0) rfl rfl ?_
    refine mj_getI C ff_X0_18 dX0_append_26 sh_70 rfl ?_
    refine mj_iload_n C 2 dX0_append_29 (i := 2) rfl rfl ?_
    refine mj_iast C dX0_append_30 sh_72 (fun h_2 => ?_)
    refine mj_aload_n C 0 dX0_append_31 (i := 0) rfl rfl ?_
    refine mj_dup C dX0_append_32 rfl ?_
    refine mj_getI C ff_X0_18 dX0_append_33 sh_70 rfl ?_
    refine mj_iconst C (v := 1) dX0_append_36 rfl ?_
    refine mj_iadd C dX0_append_37 ?_
    refine mj_putL C fp_X0_18 dX0_append_38 sh_70 rfl rfl rfl (fun h_3 => ?_)
    refine mj_iconst C (v := 1) dX0_append_41 rfl ?_
    exact mj_rZM C N dX0_append_42
  · refine mj_iconst C (v := 0) dX0_append_9 rfl ?_
    exact mj_rZM C N dX0_append_10
noncomputable def fX0_firstWrong_2 : Nat → Mm → Int32 → Int32 → Option ((Int32) ⊕ (Unit))
  | 0, _, _, _ => none
  | n + 1, h, l1, l2 => (if (h 70 2) ≤ l2 then some (.inr ()) else md_ck (md_in l2 15) (md_ck (md_in l2 15) ((if ((l1 >>> ((h 71 (l2).toNatClampNeg) &&& 31)) &&& (1 : Int32)) = (h 72 (l2).toNatClampNeg) then fX0_firstWrong_2 n h l1 (l2 + 1) else some (.inl l2)))))
set_option maxRecDepth 100000 in
set_option maxHeartbeats 4000000 in
theorem lX0_firstWrong_2 {K : Kx} {Y : Yx} {cs : Nat × Nat} (C : Cx K Y cs cX0_firstWrong RX0 3 0 0) {P : (Int32) ⊕ (Unit) → Prop} : ∀ (n : Nat) (h : Mm) (l1 : Int32) (l2 : Int32), (∀ (q : Int32), J SHc K Y cs (P (.inl q)) 29 [(2, .int q)] [] h) → (∀ (q : Unit), J SHc K Y cs (P (.inr q)) 37 [] [] h) → J SHc K Y cs (mj_O (fX0_firstWrong_2 n h l1 l2) P) 2 [(0, rf K 70), (1, .int l1), (2, .int l2)] [] h := by
  intro n
  induction n with
  | zero => intro h l1 l2 kk0 kk1; exact mj_none
  | succ n ih =>
    intro h l1 l2 kk0 kk1
    rw [fX0_firstWrong_2]
    refine mj_iload_n C 2 dX0_firstWrong_2 (i := 2) rfl rfl ?_
    refine mj_aload_n C 0 dX0_firstWrong_3 (i := 0) rfl rfl ?_
    refine mj_getI C ff_X0_18 dX0_firstWrong_4 sh_70 rfl ?_
    refine mj_icmp_ge C 37 dX0_firstWrong_7 (by decide) ?_ ?_
    · exact mj_sub [] rfl (mj_some (kk1 ()))
    · refine mj_iload_n C 1 dX0_firstWrong_10 (i := 1) rfl rfl ?_
      refine mj_aload_n C 0 dX0_firstWrong_11 (i := 0) rfl rfl ?_
      refine mj_getR C ff_X0_9 dX0_firstWrong_12 sh_70 rfl ?_
      refine mj_iload_n C 2 dX0_firstWrong_15 (i := 2) rfl rfl ?_
      refine mj_iald C dX0_firstWrong_16 sh_71 ?_
      refine mj_ishr C dX0_firstWrong_17 ?_
      refine mj_iconst C (v := 1) dX0_firstWrong_18 rfl ?_
      refine mj_iand C dX0_firstWrong_19 ?_
      refine mj_aload_n C 0 dX0_firstWrong_20 (i := 0) rfl rfl ?_
      refine mj_getR C ff_X0_15 dX0_firstWrong_21 sh_70 rfl ?_
      refine mj_iload_n C 2 dX0_firstWrong_24 (i := 2) rfl rfl ?_
      refine mj_iald C dX0_firstWrong_25 sh_72 ?_
      refine mj_icmp_eq C 31 dX0_firstWrong_26 (by decide) ?_ ?_
      · refine mj_iinc C (l2 + 1) 2 [(2, .int (l2 + 1)), (0, rf K 70), (1, .int l1)] dX0_firstWrong_31 rfl rfl (by decide) rfl ?_
        refine mj_goto C 2 dX0_firstWrong_34 (by decide) ?_
        exact mj_sub [1, 2, 0] rfl (ih h l1 (l2 + 1) kk0 kk1)
      · exact mj_sub [2] rfl (mj_some (kk0 l2))
noncomputable def fX0_firstWrong (h : Mm) (l1 : Int32) : Option (Int32) := md_bS (fX0_firstWrong_2 md_N h l1 (0 : Int32)) (fun q_1 : Int32 => some q_1) (fun q_2 : Unit => some (-1 : Int32))
set_option maxRecDepth 100000 in
set_option maxHeartbeats 4000000 in
theorem ctX0_firstWrong (K : Kx) (h : Mm) (l1 : Int32) {a : Int32} (hF : fX0_firstWrong h l1 = some a) : Mt K yX0_firstWrong cX0_firstWrong 3 (some .int) 0 0 SHc [rf K 70, .int l1] h (some (.int a)) h := by
  refine Mt.of hF [(0, rf K 70), (1, .int l1)] (by decide) (Nat.le_of_ble_eq_true rfl) rfl (fun Y C N => ?_)
  have C : Cx K Y (0, 0) cX0_firstWrong RX0 3 0 0 := C
  unfold fX0_firstWrong
  refine mj_iconst C (v := 0) dX0_firstWrong_0 rfl ?_
  refine mj_istore_n C [(2, .int (0 : Int32)), (0, rf K 70), (1, .int l1)] dX0_firstWrong_1 (i := 2) rfl (by decide) rfl ?_
  refine mj_phiS 29 37 (fun q_1 => [(2, .int q_1)]) (fun q_2 => []) (fun q_1 => h) (fun q_2 => h) (fun P' kj_3 kj_4 => mj_sub [1, 2, 0] rfl (lX0_firstWrong_2 C md_N h l1 (0 : Int32) kj_3 kj_4)) (fun q_1 => ?_) (fun q_2 => ?_)
  · refine mj_iload_n C 0 dX0_firstWrong_29 (i := 2) rfl rfl ?_
    exact mj_rI C N dX0_firstWrong_30
  · refine mj_iconst C (v := -1) dX0_firstWrong_37 rfl ?_
    exact mj_rI C N dX0_firstWrong_38
noncomputable def fX1_clear (h : Mm) (c : Nat) : Option (Mm) := md_lt (md_up h c 0 (0 : Int32)) (fun h_1 : Mm => md_lt (md_up h_1 c 1 (0 : Int32)) (fun h_2 : Mm => md_lt (md_up h_2 c 2 (0 : Int32)) (fun h_3 : Mm => md_lt (md_up h_3 c 3 (0 : Int32)) (fun h_4 : Mm => md_lt (md_up h_4 c 5 (0 : Int32)) (fun h_5 : Mm => md_lt (md_up h_5 c 9 (0 : Int32)) (fun h_6 : Mm => md_lt (md_up h_6 c 13 (0 : Int32)) (fun h_7 : Mm => md_lt (md_up h_7 c 14 (0 : Int32)) (fun h_8 : Mm => some h_8))))))))
set_option maxRecDepth 100000 in
set_option maxHeartbeats 4000000 in
theorem ctX1_clear (K : Kx) (h : Mm) (c : Nat) (hc : isCnt c) {a : Mm} (hF : fX1_clear h c = some a) : Mt K yX1_clear cX1_clear 1 none 0 0 SHc [rf K c] h none a := by
  refine Mt.of hF [(0, rf K c)] (by decide) (Nat.le_of_ble_eq_true rfl) rfl (fun Y C N => ?_)
  have C : Cx K Y (0, 0) cX1_clear RX1 1 0 0 := C
  unfold fX1_clear
  refine mj_aload_n C 0 dX1_clear_0 (i := 0) rfl rfl ?_
  refine mj_iconst C (v := 0) dX1_clear_1 rfl ?_
  refine mj_putL C fp_X1_39 dX1_clear_2 (cn_o hc) rfl rfl rfl (fun h_1 => ?_)
  refine mj_aload_n C 0 dX1_clear_5 (i := 0) rfl rfl ?_
  refine mj_iconst C (v := 0) dX1_clear_6 rfl ?_
  refine mj_putL C fp_X1_43 dX1_clear_7 (cn_o hc) rfl rfl rfl (fun h_2 => ?_)
  refine mj_aload_n C 0 dX1_clear_10 (i := 0) rfl rfl ?_
  refine mj_iconst C (v := 0) dX1_clear_11 rfl ?_
  refine mj_putL C fp_X1_47 dX1_clear_12 (cn_o hc) rfl rfl rfl (fun h_3 => ?_)
  refine mj_aload_n C 0 dX1_clear_15 (i := 0) rfl rfl ?_
  refine mj_iconst C (v := 0) dX1_clear_16 rfl ?_
  refine mj_putL C fp_X1_50 dX1_clear_17 (cn_o hc) rfl rfl rfl (fun h_4 => ?_)
  refine mj_aload_n C 0 dX1_clear_20 (i := 0) rfl rfl ?_
  refine mj_iconst C (v := 0) dX1_clear_21 rfl ?_
  refine mj_putL C fp_X1_53 dX1_clear_22 (cn_o hc) rfl rfl rfl (fun h_5 => ?_)
  refine mj_aload_n C 0 dX1_clear_25 (i := 0) rfl rfl ?_
  refine mj_iconst C (v := 0) dX1_clear_26 rfl ?_
  refine mj_putL C fp_X1_56 dX1_clear_27 (cn_o hc) rfl rfl rfl (fun h_6 => ?_)
  refine mj_aload_n C 0 dX1_clear_30 (i := 0) rfl rfl ?_
  refine mj_iconst C (v := 0) dX1_clear_31 rfl ?_
  refine mj_putL C fp_X1_59 dX1_clear_32 (cn_o hc) rfl rfl rfl (fun h_7 => ?_)
  refine mj_aload_n C 0 dX1_clear_35 (i := 0) rfl rfl ?_
  refine mj_iconst C (v := 0) dX1_clear_36 rfl ?_
  refine mj_putL C fp_X1_62 dX1_clear_37 (cn_o hc) rfl rfl rfl (fun h_8 => ?_)
  exact mj_rV C N dX1_clear_40
noncomputable def fX1_isIdea (h : Mm) (c : Nat) (l1 : Int32) : Option (Bool) := md_bd ((if l1 < 0 then some false else (if (h c 3) ≤ l1 then some false else some true))) (fun (v_1 : Bool) => some v_1)
set_option maxRecDepth 100000 in
set_option maxHeartbeats 4000000 in
theorem ctX1_isIdea (K : Kx) (h : Mm) (c : Nat) (l1 : Int32) (hc : isCnt c) {a : Bool} (hF : fX1_isIdea h c l1 = some a) : Mt K yX1_isIdea cX1_isIdea 2 (some .boolean) 0 0 SHc [rf K c, .int l1] h (some (.int (md_bi a))) h := by
  refine Mt.of hF [(0, rf K c), (1, .int l1)] (by decide) (Nat.le_of_ble_eq_true rfl) rfl (fun Y C N => ?_)
  have C : Cx K Y (0, 0) cX1_isIdea RX1 2 0 0 := C
  unfold fX1_isIdea
  refine mj_iload_n C 1 dX1_isIdea_0 (i := 1) rfl rfl ?_
  refine mj_phi1 17 (fun (v_1 : Bool) => []) (fun (v_1 : Bool) => [.int (md_bi v_1)]) (fun (v_1 : Bool) => h) (fun P' kj_2 => ?_) (fun v_1 => ?_)
  · refine mj_if_lt C 16 dX1_isIdea_1 (by decide) ?_ ?_
    · refine mj_iconst C (v := 0) dX1_isIdea_16 rfl ?_
      exact mj_sub [] rfl (mj_some (kj_2 false))
    · refine mj_iload_n C 1 dX1_isIdea_4 (i := 1) rfl rfl ?_
      refine mj_aload_n C 0 dX1_isIdea_5 (i := 0) rfl rfl ?_
      refine mj_getI C ff_X1_50 dX1_isIdea_6 (cn_o hc) rfl ?_
      refine mj_icmp_ge C 16 dX1_isIdea_9 (by decide) ?_ ?_
      · refine mj_iconst C (v := 0) dX1_isIdea_16 rfl ?_
        exact mj_sub [] rfl (mj_some (kj_2 false))
      · refine mj_iconst C (v := 1) dX1_isIdea_12 rfl ?_
        refine mj_goto C 17 dX1_isIdea_13 (by decide) ?_
        exact mj_sub [] rfl (mj_some (kj_2 true))
  · exact mj_rZ C N dX1_isIdea_17
noncomputable def fX1_isTraveller (h : Mm) (c : Nat) (l1 : Int32) : Option (Bool) := md_bd ((if l1 < 0 then some false else (if (h c 14) ≤ l1 then some false else some true))) (fun (v_1 : Bool) => some v_1)
set_option maxRecDepth 100000 in
set_option maxHeartbeats 4000000 in
theorem ctX1_isTraveller (K : Kx) (h : Mm) (c : Nat) (l1 : Int32) (hc : isCnt c) {a : Bool} (hF : fX1_isTraveller h c l1 = some a) : Mt K yX1_isTraveller cX1_isTraveller 2 (some .boolean) 0 0 SHc [rf K c, .int l1] h (some (.int (md_bi a))) h := by
  refine Mt.of hF [(0, rf K c), (1, .int l1)] (by decide) (Nat.le_of_ble_eq_true rfl) rfl (fun Y C N => ?_)
  have C : Cx K Y (0, 0) cX1_isTraveller RX1 2 0 0 := C
  unfold fX1_isTraveller
  refine mj_iload_n C 1 dX1_isTraveller_0 (i := 1) rfl rfl ?_
  refine mj_phi1 17 (fun (v_1 : Bool) => []) (fun (v_1 : Bool) => [.int (md_bi v_1)]) (fun (v_1 : Bool) => h) (fun P' kj_2 => ?_) (fun v_1 => ?_)
  · refine mj_if_lt C 16 dX1_isTraveller_1 (by decide) ?_ ?_
    · refine mj_iconst C (v := 0) dX1_isTraveller_16 rfl ?_
      exact mj_sub [] rfl (mj_some (kj_2 false))
    · refine mj_iload_n C 1 dX1_isTraveller_4 (i := 1) rfl rfl ?_
      refine mj_aload_n C 0 dX1_isTraveller_5 (i := 0) rfl rfl ?_
      refine mj_getI C ff_X1_62 dX1_isTraveller_6 (cn_o hc) rfl ?_
      refine mj_icmp_ge C 16 dX1_isTraveller_9 (by decide) ?_ ?_
      · refine mj_iconst C (v := 0) dX1_isTraveller_16 rfl ?_
        exact mj_sub [] rfl (mj_some (kj_2 false))
      · refine mj_iconst C (v := 1) dX1_isTraveller_12 rfl ?_
        refine mj_goto C 17 dX1_isTraveller_13 (by decide) ?_
        exact mj_sub [] rfl (mj_some (kj_2 true))
  · exact mj_rZ C N dX1_isTraveller_17
noncomputable def fX1_isSet (h : Mm) (c : Nat) (l1 : Int32) : Option (Bool) := md_bd ((if l1 < 0 then some false else (if ((1 : Int32) <<< ((h c 3) &&& 31)) ≤ l1 then some false else some true))) (fun (v_1 : Bool) => some v_1)
set_option maxRecDepth 100000 in
set_option maxHeartbeats 4000000 in
theorem ctX1_isSet (K : Kx) (h : Mm) (c : Nat) (l1 : Int32) (hc : isCnt c) {a : Bool} (hF : fX1_isSet h c l1 = some a) : Mt K yX1_isSet cX1_isSet 2 (some .boolean) 0 0 SHc [rf K c, .int l1] h (some (.int (md_bi a))) h := by
  refine Mt.of hF [(0, rf K c), (1, .int l1)] (by decide) (Nat.le_of_ble_eq_true rfl) rfl (fun Y C N => ?_)
  have C : Cx K Y (0, 0) cX1_isSet RX1 2 0 0 := C
  unfold fX1_isSet
  refine mj_iload_n C 1 dX1_isSet_0 (i := 1) rfl rfl ?_
  refine mj_phi1 19 (fun (v_1 : Bool) => []) (fun (v_1 : Bool) => [.int (md_bi v_1)]) (fun (v_1 : Bool) => h) (fun P' kj_2 => ?_) (fun v_1 => ?_)
  · refine mj_if_lt C 18 dX1_isSet_1 (by decide) ?_ ?_
    · refine mj_iconst C (v := 0) dX1_isSet_18 rfl ?_
      exact mj_sub [] rfl (mj_some (kj_2 false))
    · refine mj_iload_n C 1 dX1_isSet_4 (i := 1) rfl rfl ?_
      refine mj_iconst C (v := 1) dX1_isSet_5 rfl ?_
      refine mj_aload_n C 0 dX1_isSet_6 (i := 0) rfl rfl ?_
      refine mj_getI C ff_X1_50 dX1_isSet_7 (cn_o hc) rfl ?_
      refine mj_ishl C dX1_isSet_10 ?_
      refine mj_icmp_ge C 18 dX1_isSet_11 (by decide) ?_ ?_
      · refine mj_iconst C (v := 0) dX1_isSet_18 rfl ?_
        exact mj_sub [] rfl (mj_some (kj_2 false))
      · refine mj_iconst C (v := 1) dX1_isSet_14 rfl ?_
        refine mj_goto C 19 dX1_isSet_15 (by decide) ?_
        exact mj_sub [] rfl (mj_some (kj_2 true))
  · exact mj_rZ C N dX1_isSet_19
noncomputable def fX1_joined_16 : Nat → Mm → Nat → Int32 → Int32 → Int32 → Int32 → Option (Int32)
  | 0, _, _, _, _, _, _ => none
  | n + 1, h, c, l2, l3, l4, l5 => (if (h c 5) ≤ l5 then some l2 else md_ck (md_in l5 10) (md_ck (md_in l5 10) (md_lt (((1 : Int32) <<< ((h (c + 2) (l5).toNatClampNeg) &&& 31)) ||| ((1 : Int32) <<< ((h (c + 3) (l5).toNatClampNeg) &&& 31))) (fun l6_1 : Int32 => md_bd ((if (l2 &&& l6_1) = l6_1 then md_ck (md_in l5 10) (md_lt (l2 ||| ((1 : Int32) <<< ((h (c + 4) (l5).toNatClampNeg) &&& 31))) (fun l2_4 : Int32 => some l2_4)) else some l2)) (fun (v_2 : Int32) => fX1_joined_16 n h c v_2 l3 l4 (l5 + 1))))))
set_option maxRecDepth 100000 in
set_option maxHeartbeats 4000000 in
theorem lX1_joined_16 {K : Kx} {Y : Yx} {cs : Nat × Nat} (c : Nat) (hc : isCnt c) (C : Cx K Y cs cX1_joined RX1 7 0 0) {P : Int32 → Prop} : ∀ (n : Nat) (h : Mm) (l2 : Int32) (l3 : Int32) (l4 : Int32) (l5 : Int32), (∀ (w2 : Int32), J SHc K Y cs (P w2) 73 [(0, rf K c), (2, .int w2), (3, .int l3), (4, .int l4)] [] h) → J SHc K Y cs (mj_O (fX1_joined_16 n h c l2 l3 l4 l5) P) 16 [(0, rf K c), (2, .int l2), (3, .int l3), (4, .int l4), (5, .int l5)] [] h := by
  intro n
  induction n with
  | zero => intro h l2 l3 l4 l5 kk0; exact mj_none
  | succ n ih =>
    intro h l2 l3 l4 l5 kk0
    rw [fX1_joined_16]
    refine mj_iload C 4 dX1_joined_16 rfl ?_
    refine mj_aload_n C 0 dX1_joined_18 (i := 0) rfl rfl ?_
    refine mj_getI C ff_X1_53 dX1_joined_19 (cn_o hc) rfl ?_
    refine mj_icmp_ge C 73 dX1_joined_22 (by decide) ?_ ?_
    · exact mj_sub [0, 1, 2, 3] rfl (mj_some (kk0 l2))
    · refine mj_iconst C (v := 1) dX1_joined_25 rfl ?_
      refine mj_aload_n C 0 dX1_joined_26 (i := 0) rfl rfl ?_
      refine mj_getR C ff_X1_15 dX1_joined_27 (cn_o hc) rfl ?_
      refine mj_iload C 4 dX1_joined_30 rfl ?_
      refine mj_iald C dX1_joined_32 (cn_6 hc) ?_
      refine mj_ishl C dX1_joined_33 ?_
      refine mj_iconst C (v := 1) dX1_joined_34 rfl ?_
      refine mj_aload_n C 0 dX1_joined_35 (i := 0) rfl rfl ?_
      refine mj_getR C ff_X1_18 dX1_joined_36 (cn_o hc) rfl ?_
      refine mj_iload C 4 dX1_joined_39 rfl ?_
      refine mj_iald C dX1_joined_41 (cn_7 hc) ?_
      refine mj_ishl C dX1_joined_42 ?_
      refine mj_ior C dX1_joined_43 ?_
      refine mj_istoreL C (fun l6_1 => [(6, .int l6_1), (0, rf K c), (2, .int l2), (3, .int l3), (4, .int l4), (5, .int l5)]) dX1_joined_44 (by decide) rfl (fun l6_1 => ?_)
      refine mj_iload_n C 2 dX1_joined_46 (i := 2) rfl rfl ?_
      refine mj_iload C 0 dX1_joined_47 rfl ?_
      refine mj_iand C dX1_joined_49 ?_
      refine mj_iload C 0 dX1_joined_50 rfl ?_
      refine mj_phi1 67 (fun (v_2 : Int32) => [(0, rf K c), (2, .int v_2), (3, .int l3), (4, .int l4), (5, .int l5)]) (fun (v_2 : Int32) => []) (fun (v_2 : Int32) => h) (fun P' kj_3 => ?_) (fun v_2 => ?_)
      · refine mj_icmp_ne C 67 dX1_joined_52 (by decide) ?_ ?_
        · exact mj_sub [1, 2, 3, 4, 5] rfl (mj_some (kj_3 l2))
        · refine mj_iload_n C 2 dX1_joined_55 (i := 2) rfl rfl ?_
          refine mj_iconst C (v := 1) dX1_joined_56 rfl ?_
          refine mj_aload_n C 1 dX1_joined_57 (i := 0) rfl rfl ?_
          refine mj_getR C ff_X1_21 dX1_joined_58 (cn_o hc) rfl ?_
          refine mj_iload C 5 dX1_joined_61 rfl ?_
          refine mj_iald C dX1_joined_63 (cn_8 hc) ?_
          refine mj_ishl C dX1_joined_64 ?_
          refine mj_ior C dX1_joined_65 ?_
          refine mj_istore_nL C (fun l2_4 => [(2, .int l2_4), (6, .int l6_1), (0, rf K c), (3, .int l3), (4, .int l4), (5, .int l5)]) dX1_joined_66 (i := 2) rfl (by decide) rfl (fun l2_4 => ?_)
          exact mj_sub [2, 0, 3, 4, 5] rfl (mj_some (kj_3 l2_4))
      · refine mj_iinc C (l5 + 1) 4 [(5, .int (l5 + 1)), (0, rf K c), (2, .int v_2), (3, .int l3), (4, .int l4)] dX1_joined_67 rfl rfl (by decide) rfl ?_
        refine mj_goto C 16 dX1_joined_70 (by decide) ?_
        exact mj_sub [1, 2, 3, 4, 0] rfl (ih h v_2 l3 l4 (l5 + 1) kk0)
noncomputable def fX1_joined_4 : Nat → Mm → Nat → Int32 → Int32 → Option (Int32)
  | 0, _, _, _, _ => none
  | n + 1, h, c, l2, l3 => (if (8 : Int32) ≤ l3 then some l2 else md_bd (fX1_joined_16 md_N h c l2 l3 l2 (0 : Int32)) (fun (v_5 : Int32) => (if v_5 = l2 then some v_5 else fX1_joined_4 n h c v_5 (l3 + 1))))
set_option maxRecDepth 100000 in
set_option maxHeartbeats 4000000 in
theorem lX1_joined_4 {K : Kx} {Y : Yx} {cs : Nat × Nat} (c : Nat) (hc : isCnt c) (C : Cx K Y cs cX1_joined RX1 7 0 0) {P : Int32 → Prop} : ∀ (n : Nat) (h : Mm) (l2 : Int32) (l3 : Int32), (∀ (w2 : Int32), J SHc K Y cs (P w2) 88 [(2, .int w2)] [] h) → J SHc K Y cs (mj_O (fX1_joined_4 n h c l2 l3) P) 4 [(0, rf K c), (2, .int l2), (3, .int l3)] [] h := by
  intro n
  induction n with
  | zero => intro h l2 l3 kk0; exact mj_none
  | succ n ih =>
    intro h l2 l3 kk0
    rw [fX1_joined_4]
    refine mj_iload_n C 2 dX1_joined_4 (i := 3) rfl rfl ?_
    refine mj_bipush C (v := 8) dX1_joined_5 rfl ?_
    refine mj_icmp_ge C 88 dX1_joined_7 (by decide) ?_ ?_
    · exact mj_sub [1] rfl (mj_some (kk0 l2))
    · refine mj_iload_n C 1 dX1_joined_10 (i := 2) rfl rfl ?_
      refine mj_istore C [(4, .int l2), (0, rf K c), (2, .int l2), (3, .int l3)] dX1_joined_11 (by decide) rfl ?_
      refine mj_iconst C (v := 0) dX1_joined_13 rfl ?_
      refine mj_istore C [(5, .int (0 : Int32)), (4, .int l2), (0, rf K c), (2, .int l2), (3, .int l3)] dX1_joined_14 (by decide) rfl ?_
      refine mj_phi1 73 (fun (v_5 : Int32) => [(0, rf K c), (2, .int v_5), (3, .int l3), (4, .int l2)]) (fun (v_5 : Int32) => []) (fun (v_5 : Int32) => h) (fun P' kj_6 => mj_sub [2, 3, 4, 1, 0] rfl (lX1_joined_16 c hc C md_N h l2 l3 l2 (0 : Int32) kj_6)) (fun v_5 => ?_)
      refine mj_iload_n C 1 dX1_joined_73 (i := 2) rfl rfl ?_
      refine mj_iload C 3 dX1_joined_74 rfl ?_
      refine mj_icmp_ne C 82 dX1_joined_76 (by decide) ?_ ?_
      · refine mj_iinc C (l3 + 1) 2 [(3, .int (l3 + 1)), (0, rf K c), (2, .int v_5), (4, .int l2)] dX1_joined_82 rfl rfl (by decide) rfl ?_
        refine mj_goto C 4 dX1_joined_85 (by decide) ?_
        exact mj_sub [1, 2, 0] rfl (ih h v_5 (l3 + 1) kk0)
      · refine mj_goto C 88 dX1_joined_79 (by decide) ?_
        exact mj_sub [1] rfl (mj_some (kk0 v_5))
noncomputable def fX1_joined (h : Mm) (c : Nat) (l1 : Int32) : Option (Int32) := md_bd (fX1_joined_4 md_N h c l1 (0 : Int32)) (fun (v_7 : Int32) => some v_7)
set_option maxRecDepth 100000 in
set_option maxHeartbeats 4000000 in
theorem ctX1_joined (K : Kx) (h : Mm) (c : Nat) (l1 : Int32) (hc : isCnt c) {a : Int32} (hF : fX1_joined h c l1 = some a) : Mt K yX1_joined cX1_joined 7 (some .int) 0 0 SHc [rf K c, .int l1] h (some (.int a)) h := by
  refine Mt.of hF [(0, rf K c), (1, .int l1)] (by decide) (Nat.le_of_ble_eq_true rfl) rfl (fun Y C N => ?_)
  have C : Cx K Y (0, 0) cX1_joined RX1 7 0 0 := C
  unfold fX1_joined
  refine mj_iload_n C 1 dX1_joined_0 (i := 1) rfl rfl ?_
  refine mj_istore_n C [(2, .int l1), (0, rf K c), (1, .int l1)] dX1_joined_1 (i := 2) rfl (by decide) rfl ?_
  refine mj_iconst C (v := 0) dX1_joined_2 rfl ?_
  refine mj_istore_n C [(3, .int (0 : Int32)), (2, .int l1), (0, rf K c), (1, .int l1)] dX1_joined_3 (i := 3) rfl (by decide) rfl ?_
  refine mj_phi1 88 (fun (v_7 : Int32) => [(2, .int v_7)]) (fun (v_7 : Int32) => []) (fun (v_7 : Int32) => h) (fun P' kj_8 => mj_sub [2, 1, 0] rfl (lX1_joined_4 c hc C md_N h l1 (0 : Int32) kj_8)) (fun v_7 => ?_)
  refine mj_iload_n C 0 dX1_joined_88 (i := 2) rfl rfl ?_
  exact mj_rI C N dX1_joined_89
noncomputable def fX1_findAllFrom_9 : Nat → Mm → Nat → Int32 → Int32 → Option (Mm)
  | 0, _, _, _, _ => none
  | n + 1, h, c, l1, l2 => (if l1 ≤ l2 then some h else md_bd ((if l2 = 0 then some (0 : Int32) else md_ck (md_in (l2 &&& (l2 - (1 : Int32))) 256) (some (l2 ||| (h (c + 9) ((l2 &&& (l2 - (1 : Int32)))).toNatClampNeg))))) (fun (v_2 : Int32) => md_bd (fX1_joined h c v_2) (fun r_4 => md_ck (md_in l2 256) (md_lt (md_up h (c + 9) (l2).toNatClampNeg r_4) (fun h_5 : Mm => fX1_findAllFrom_9 n h_5 c l1 (l2 + 1))))))
set_option maxRecDepth 100000 in
set_option maxHeartbeats 4000000 in
theorem lX1_findAllFrom_9 {K : Kx} {Y : Yx} {cs : Nat × Nat} (c : Nat) (hc : isCnt c) (C : Cx K Y cs cX1_findAllFrom RX1 3 1 26) {P : Mm → Prop} : ∀ (n : Nat) (h : Mm) (l1 : Int32) (l2 : Int32), (∀ (hw : Mm), J SHc K Y cs (P hw) 50 [] [] hw) → J SHc K Y cs (mj_O (fX1_findAllFrom_9 n h c l1 l2) P) 9 [(0, rf K c), (1, .int l1), (2, .int l2)] [] h := by
  intro n
  induction n with
  | zero => intro h l1 l2 kk0; exact mj_none
  | succ n ih =>
    intro h l1 l2 kk0
    rw [fX1_findAllFrom_9]
    refine mj_iload_n C 2 dX1_findAllFrom_9 (i := 2) rfl rfl ?_
    refine mj_iload_n C 1 dX1_findAllFrom_10 (i := 1) rfl rfl ?_
    refine mj_icmp_ge C 50 dX1_findAllFrom_11 (by decide) ?_ ?_
    · exact mj_sub [] rfl (mj_some (kk0 h))
    · refine mj_aload_n C 0 dX1_findAllFrom_14 (i := 0) rfl rfl ?_
      refine mj_getR C ff_X1_36 dX1_findAllFrom_15 (cn_o hc) rfl ?_
      refine mj_iload_n C 2 dX1_findAllFrom_18 (i := 2) rfl rfl ?_
      refine mj_aload_n C 0 dX1_findAllFrom_19 (i := 0) rfl rfl ?_
      refine mj_iload_n C 2 dX1_findAllFrom_20 (i := 2) rfl rfl ?_
      refine mj_phi1 40 (fun (v_2 : Int32) => [(0, rf K c), (1, .int l1), (2, .int l2)]) (fun (v_2 : Int32) => [.int v_2, rf K c, .int l2, rf K (c + 9)]) (fun (v_2 : Int32) => h) (fun P' kj_3 => ?_) (fun v_2 => ?_)
      · refine mj_if_ne C 28 dX1_findAllFrom_21 (by decide) ?_ ?_
        · refine mj_iload_n C 2 dX1_findAllFrom_28 (i := 2) rfl rfl ?_
          refine mj_aload_n C 0 dX1_findAllFrom_29 (i := 0) rfl rfl ?_
          refine mj_getR C ff_X1_36 dX1_findAllFrom_30 (cn_o hc) rfl ?_
          refine mj_iload_n C 2 dX1_findAllFrom_33 (i := 2) rfl rfl ?_
          refine mj_iload_n C 2 dX1_findAllFrom_34 (i := 2) rfl rfl ?_
          refine mj_iconst C (v := 1) dX1_findAllFrom_35 rfl ?_
          refine mj_isub C dX1_findAllFrom_36 ?_
          refine mj_iand C dX1_findAllFrom_37 ?_
          refine mj_iald C dX1_findAllFrom_38 (cn_16 hc) ?_
          refine mj_ior C dX1_findAllFrom_39 ?_
          exact mj_sub [0, 1, 2] rfl (mj_some (kj_3 (l2 ||| (h (c + 9) ((l2 &&& (l2 - (1 : Int32)))).toNatClampNeg))))
        · refine mj_iconst C (v := 0) dX1_findAllFrom_24 rfl ?_
          refine mj_goto C 40 dX1_findAllFrom_25 (by decide) ?_
          exact mj_sub [0, 1, 2] rfl (mj_some (kj_3 (0 : Int32)))
      · refine mj_vI C my_X1_joined mv_X1_65 dX1_findAllFrom_40 (cn_o hc) rfl (fun a hF => ctX1_joined K h c v_2 hc hF) (by decide) (by decide) rfl rfl (Nat.le_of_ble_eq_true rfl) (fun r_4 => ?_)
        refine mj_iast C dX1_findAllFrom_43 (cn_16 hc) (fun h_5 => ?_)
        refine mj_iinc C (l2 + 1) 2 [(2, .int (l2 + 1)), (0, rf K c), (1, .int l1)] dX1_findAllFrom_44 rfl rfl (by decide) rfl ?_
        refine mj_goto C 9 dX1_findAllFrom_47 (by decide) ?_
        exact mj_sub [1, 2, 0] rfl (ih h_5 l1 (l2 + 1) kk0)
noncomputable def fX1_findAllFrom (h : Mm) (c : Nat) : Option (Mm) := md_lt ((1 : Int32) <<< ((h c 3) &&& 31)) (fun l1_1 : Int32 => md_bd (fX1_findAllFrom_9 md_N h c l1_1 (0 : Int32)) (fun (h_6 : Mm) => some h_6))
set_option maxRecDepth 100000 in
set_option maxHeartbeats 4000000 in
theorem ctX1_findAllFrom (K : Kx) (h : Mm) (c : Nat) (hc : isCnt c) {a : Mm} (hF : fX1_findAllFrom h c = some a) : Mt K yX1_findAllFrom cX1_findAllFrom 3 none 1 26 SHc [rf K c] h none a := by
  refine Mt.of hF [(0, rf K c)] (by decide) (Nat.le_of_ble_eq_true rfl) rfl (fun Y C N => ?_)
  have C : Cx K Y (0, 0) cX1_findAllFrom RX1 3 1 26 := C
  unfold fX1_findAllFrom
  refine mj_iconst C (v := 1) dX1_findAllFrom_0 rfl ?_
  refine mj_aload_n C 0 dX1_findAllFrom_1 (i := 0) rfl rfl ?_
  refine mj_getI C ff_X1_50 dX1_findAllFrom_2 (cn_o hc) rfl ?_
  refine mj_ishl C dX1_findAllFrom_5 ?_
  refine mj_istore_nL C (fun l1_1 => [(1, .int l1_1), (0, rf K c)]) dX1_findAllFrom_6 (i := 1) rfl (by decide) rfl (fun l1_1 => ?_)
  refine mj_iconst C (v := 0) dX1_findAllFrom_7 rfl ?_
  refine mj_istore_n C [(2, .int (0 : Int32)), (1, .int l1_1), (0, rf K c)] dX1_findAllFrom_8 (i := 2) rfl (by decide) rfl ?_
  refine mj_phi1 50 (fun (h_6 : Mm) => []) (fun (h_6 : Mm) => []) (fun (h_6 : Mm) => h_6) (fun P' kj_7 => mj_sub [2, 1, 0] rfl (lX1_findAllFrom_9 c hc C md_N h l1_1 (0 : Int32) kj_7)) (fun h_6 => ?_)
  exact mj_rV C N dX1_findAllFrom_50
noncomputable def fX1_allFrom (h : Mm) (c : Nat) (l1 : Int32) : Option (Int32) := md_bd (fX1_isSet h c l1) (fun r_1 => md_bd ((if r_1 = true then md_ck (md_in l1 256) (some (h (c + 9) (l1).toNatClampNeg)) else some (0 : Int32))) (fun (v_2 : Int32) => some v_2))
set_option maxRecDepth 100000 in
set_option maxHeartbeats 4000000 in
theorem ctX1_allFrom (K : Kx) (h : Mm) (c : Nat) (l1 : Int32) (hc : isCnt c) {a : Int32} (hF : fX1_allFrom h c l1 = some a) : Mt K yX1_allFrom cX1_allFrom 2 (some .int) 1 21 SHc [rf K c, .int l1] h (some (.int a)) h := by
  refine Mt.of hF [(0, rf K c), (1, .int l1)] (by decide) (Nat.le_of_ble_eq_true rfl) rfl (fun Y C N => ?_)
  have C : Cx K Y (0, 0) cX1_allFrom RX1 2 1 21 := C
  unfold fX1_allFrom
  refine mj_aload_n C 0 dX1_allFrom_0 (i := 0) rfl rfl ?_
  refine mj_iload_n C 1 dX1_allFrom_1 (i := 1) rfl rfl ?_
  refine mj_vB C my_X1_isSet mv_X1_69 dX1_allFrom_2 (cn_o hc) rfl (fun a hF => ctX1_isSet K h c l1 hc hF) (by decide) (by decide) rfl rfl (Nat.le_of_ble_eq_true rfl) (fun r_1 => ?_)
  refine mj_phi1 18 (fun (v_2 : Int32) => []) (fun (v_2 : Int32) => [.int v_2]) (fun (v_2 : Int32) => h) (fun P' kj_3 => ?_) (fun v_2 => ?_)
  · refine mj_b_eq C 17 dX1_allFrom_5 (by decide) ?_ ?_
    · refine mj_iconst C (v := 0) dX1_allFrom_17 rfl ?_
      exact mj_sub [] rfl (mj_some (kj_3 (0 : Int32)))
    · refine mj_aload_n C 0 dX1_allFrom_8 (i := 0) rfl rfl ?_
      refine mj_getR C ff_X1_36 dX1_allFrom_9 (cn_o hc) rfl ?_
      refine mj_iload_n C 1 dX1_allFrom_12 (i := 1) rfl rfl ?_
      refine mj_iald C dX1_allFrom_13 (cn_16 hc) ?_
      refine mj_goto C 18 dX1_allFrom_14 (by decide) ?_
      exact mj_sub [] rfl (mj_some (kj_3 (h (c + 9) (l1).toNatClampNeg)))
  · exact mj_rI C N dX1_allFrom_18
noncomputable def fX1_sizeOf_4 : Nat → Mm → Nat → Int32 → Int32 → Int32 → Option (Int32)
  | 0, _, _, _, _, _ => none
  | n + 1, h, c, l1, l2, l3 => (if (h c 3) ≤ l3 then some l2 else md_bd ((if (l1 &&& ((1 : Int32) <<< (l3 &&& 31))) = 0 then some (0 : Int32) else md_ck (md_in l3 8) (some (h (c + 1) (l3).toNatClampNeg)))) (fun (v_1 : Int32) => md_lt (l2 + v_1) (fun l2_3 : Int32 => fX1_sizeOf_4 n h c l1 l2_3 (l3 + 1))))
set_option maxRecDepth 100000 in
set_option maxHeartbeats 4000000 in
theorem lX1_sizeOf_4 {K : Kx} {Y : Yx} {cs : Nat × Nat} (c : Nat) (hc : isCnt c) (C : Cx K Y cs cX1_sizeOf RX1 4 0 0) {P : Int32 → Prop} : ∀ (n : Nat) (h : Mm) (l1 : Int32) (l2 : Int32) (l3 : Int32), (∀ (w2 : Int32), J SHc K Y cs (P w2) 39 [(2, .int w2)] [] h) → J SHc K Y cs (mj_O (fX1_sizeOf_4 n h c l1 l2 l3) P) 4 [(0, rf K c), (1, .int l1), (2, .int l2), (3, .int l3)] [] h := by
  intro n
  induction n with
  | zero => intro h l1 l2 l3 kk0; exact mj_none
  | succ n ih =>
    intro h l1 l2 l3 kk0
    rw [fX1_sizeOf_4]
    refine mj_iload_n C 3 dX1_sizeOf_4 (i := 3) rfl rfl ?_
    refine mj_aload_n C 0 dX1_sizeOf_5 (i := 0) rfl rfl ?_
    refine mj_getI C ff_X1_50 dX1_sizeOf_6 (cn_o hc) rfl ?_
    refine mj_icmp_ge C 39 dX1_sizeOf_9 (by decide) ?_ ?_
    · exact mj_sub [2] rfl (mj_some (kk0 l2))
    · refine mj_iload_n C 2 dX1_sizeOf_12 (i := 2) rfl rfl ?_
      refine mj_iload_n C 1 dX1_sizeOf_13 (i := 1) rfl rfl ?_
      refine mj_iconst C (v := 1) dX1_sizeOf_14 rfl ?_
      refine mj_iload_n C 3 dX1_sizeOf_15 (i := 3) rfl rfl ?_
      refine mj_ishl C dX1_sizeOf_16 ?_
      refine mj_iand C dX1_sizeOf_17 ?_
      refine mj_phi1 31 (fun (v_1 : Int32) => [(0, rf K c), (1, .int l1), (3, .int l3)]) (fun (v_1 : Int32) => [.int v_1, .int l2]) (fun (v_1 : Int32) => h) (fun P' kj_2 => ?_) (fun v_1 => ?_)
      · refine mj_if_eq C 30 dX1_sizeOf_18 (by decide) ?_ ?_
        · refine mj_iconst C (v := 0) dX1_sizeOf_30 rfl ?_
          exact mj_sub [0, 1, 3] rfl (mj_some (kj_2 (0 : Int32)))
        · refine mj_aload_n C 0 dX1_sizeOf_21 (i := 0) rfl rfl ?_
          refine mj_getR C ff_X1_9 dX1_sizeOf_22 (cn_o hc) rfl ?_
          refine mj_iload_n C 3 dX1_sizeOf_25 (i := 3) rfl rfl ?_
          refine mj_iald C dX1_sizeOf_26 (cn_4 hc) ?_
          refine mj_goto C 31 dX1_sizeOf_27 (by decide) ?_
          exact mj_sub [0, 1, 3] rfl (mj_some (kj_2 (h (c + 1) (l3).toNatClampNeg)))
      · refine mj_iadd C dX1_sizeOf_31 ?_
        refine mj_istore_nL C (fun l2_3 => [(2, .int l2_3), (0, rf K c), (1, .int l1), (3, .int l3)]) dX1_sizeOf_32 (i := 2) rfl (by decide) rfl (fun l2_3 => ?_)
        refine mj_iinc C (l3 + 1) 3 [(3, .int (l3 + 1)), (2, .int l2_3), (0, rf K c), (1, .int l1)] dX1_sizeOf_33 rfl rfl (by decide) rfl ?_
        refine mj_goto C 4 dX1_sizeOf_36 (by decide) ?_
        exact mj_sub [2, 3, 1, 0] rfl (ih h l1 l2_3 (l3 + 1) kk0)
noncomputable def fX1_sizeOf (h : Mm) (c : Nat) (l1 : Int32) : Option (Int32) := md_bd (fX1_sizeOf_4 md_N h c l1 (0 : Int32) (0 : Int32)) (fun (v_4 : Int32) => some v_4)
set_option maxRecDepth 100000 in
set_option maxHeartbeats 4000000 in
theorem ctX1_sizeOf (K : Kx) (h : Mm) (c : Nat) (l1 : Int32) (hc : isCnt c) {a : Int32} (hF : fX1_sizeOf h c l1 = some a) : Mt K yX1_sizeOf cX1_sizeOf 4 (some .int) 0 0 SHc [rf K c, .int l1] h (some (.int a)) h := by
  refine Mt.of hF [(0, rf K c), (1, .int l1)] (by decide) (Nat.le_of_ble_eq_true rfl) rfl (fun Y C N => ?_)
  have C : Cx K Y (0, 0) cX1_sizeOf RX1 4 0 0 := C
  unfold fX1_sizeOf
  refine mj_iconst C (v := 0) dX1_sizeOf_0 rfl ?_
  refine mj_istore_n C [(2, .int (0 : Int32)), (0, rf K c), (1, .int l1)] dX1_sizeOf_1 (i := 2) rfl (by decide) rfl ?_
  refine mj_iconst C (v := 0) dX1_sizeOf_2 rfl ?_
  refine mj_istore_n C [(3, .int (0 : Int32)), (2, .int (0 : Int32)), (0, rf K c), (1, .int l1)] dX1_sizeOf_3 (i := 3) rfl (by decide) rfl ?_
  refine mj_phi1 39 (fun (v_4 : Int32) => [(2, .int v_4)]) (fun (v_4 : Int32) => []) (fun (v_4 : Int32) => h) (fun P' kj_5 => mj_sub [2, 3, 1, 0] rfl (lX1_sizeOf_4 c hc C md_N h l1 (0 : Int32) (0 : Int32) kj_5)) (fun v_4 => ?_)
  refine mj_iload_n C 0 dX1_sizeOf_39 (i := 2) rfl rfl ?_
  exact mj_rI C N dX1_sizeOf_40
noncomputable def fX1_isStuck (h : Mm) (c : Nat) (l1 : Int32) : Option (Bool) := md_bd (fX1_sizeOf h c l1) (fun r_1 => md_bd ((if r_1 ≤ (h c 1) then some false else some true)) (fun (v_2 : Bool) => some v_2))
set_option maxRecDepth 100000 in
set_option maxHeartbeats 4000000 in
theorem ctX1_isStuck (K : Kx) (h : Mm) (c : Nat) (l1 : Int32) (hc : isCnt c) {a : Bool} (hF : fX1_isStuck h c l1 = some a) : Mt K yX1_isStuck cX1_isStuck 2 (some .boolean) 1 23 SHc [rf K c, .int l1] h (some (.int (md_bi a))) h := by
  refine Mt.of hF [(0, rf K c), (1, .int l1)] (by decide) (Nat.le_of_ble_eq_true rfl) rfl (fun Y C N => ?_)
  have C : Cx K Y (0, 0) cX1_isStuck RX1 2 1 23 := C
  unfold fX1_isStuck
  refine mj_aload_n C 0 dX1_isStuck_0 (i := 0) rfl rfl ?_
  refine mj_iload_n C 1 dX1_isStuck_1 (i := 1) rfl rfl ?_
  refine mj_vI C my_X1_sizeOf mv_X1_73 dX1_isStuck_2 (cn_o hc) rfl (fun a hF => ctX1_sizeOf K h c l1 hc hF) (by decide) (by decide) rfl rfl (Nat.le_of_ble_eq_true rfl) (fun r_1 => ?_)
  refine mj_aload_n C 0 dX1_isStuck_5 (i := 0) rfl rfl ?_
  refine mj_getI C ff_X1_43 dX1_isStuck_6 (cn_o hc) rfl ?_
  refine mj_phi1 17 (fun (v_2 : Bool) => []) (fun (v_2 : Bool) => [.int (md_bi v_2)]) (fun (v_2 : Bool) => h) (fun P' kj_3 => ?_) (fun v_2 => ?_)
  · refine mj_icmp_le C 16 dX1_isStuck_9 (by decide) ?_ ?_
    · refine mj_iconst C (v := 0) dX1_isStuck_16 rfl ?_
      exact mj_sub [] rfl (mj_some (kj_3 false))
    · refine mj_iconst C (v := 1) dX1_isStuck_12 rfl ?_
      refine mj_goto C 17 dX1_isStuck_13 (by decide) ?_
      exact mj_sub [] rfl (mj_some (kj_3 true))
  · exact mj_rZ C N dX1_isStuck_17
noncomputable def fX1_duty_5 : Nat → Mm → Nat → Int32 → Int32 → Int32 → Int32 → Option (Int32)
  | 0, _, _, _, _, _, _ => none
  | n + 1, h, c, l1, l2, l3, l4 => (if (h c 3) ≤ l4 then some l3 else md_lt ((1 : Int32) <<< (l4 &&& 31)) (fun l5_1 : Int32 => md_bd ((if ((l1 &&& (l2 ^^^ (-1 : Int32))) &&& l5_1) = 0 then some l3 else md_bd (fX1_allFrom h c (l1 &&& (l5_1 ^^^ (-1 : Int32)))) (fun r_4 => md_bd ((if (r_4 &&& l5_1) = 0 then some false else some true)) (fun (v_5 : Bool) => md_bd ((if v_5 = true then md_ck (md_in l4 8) (some ((h (c + 1) (l4).toNatClampNeg) / (2 : Int32))) else md_ck (md_in l4 8) (some (h (c + 1) (l4).toNatClampNeg)))) (fun (v_7 : Int32) => md_lt (l3 + v_7) (fun l3_9 : Int32 => some l3_9)))))) (fun (v_2 : Int32) => fX1_duty_5 n h c l1 l2 v_2 (l4 + 1))))
set_option maxRecDepth 100000 in
set_option maxHeartbeats 4000000 in
theorem lX1_duty_5 {K : Kx} {Y : Yx} {cs : Nat × Nat} (c : Nat) (hc : isCnt c) (C : Cx K Y cs cX1_duty RX1 7 2 42) {P : Int32 → Prop} : ∀ (n : Nat) (h : Mm) (l1 : Int32) (l2 : Int32) (l3 : Int32) (l4 : Int32), (∀ (w3 : Int32), J SHc K Y cs (P w3) 87 [(3, .int w3)] [] h) → J SHc K Y cs (mj_O (fX1_duty_5 n h c l1 l2 l3 l4) P) 5 [(0, rf K c), (1, .int l1), (2, .int l2), (3, .int l3), (4, .int l4)] [] h := by
  intro n
  induction n with
  | zero => intro h l1 l2 l3 l4 kk0; exact mj_none
  | succ n ih =>
    intro h l1 l2 l3 l4 kk0
    rw [fX1_duty_5]
    refine mj_iload C 4 dX1_duty_5 rfl ?_
    refine mj_aload_n C 0 dX1_duty_7 (i := 0) rfl rfl ?_
    refine mj_getI C ff_X1_50 dX1_duty_8 (cn_o hc) rfl ?_
    refine mj_icmp_ge C 87 dX1_duty_11 (by decide) ?_ ?_
    · exact mj_sub [3] rfl (mj_some (kk0 l3))
    · refine mj_iconst C (v := 1) dX1_duty_14 rfl ?_
      refine mj_iload C 4 dX1_duty_15 rfl ?_
      refine mj_ishl C dX1_duty_17 ?_
      refine mj_istoreL C (fun l5_1 => [(5, .int l5_1), (0, rf K c), (1, .int l1), (2, .int l2), (3, .int l3), (4, .int l4)]) dX1_duty_18 (by decide) rfl (fun l5_1 => ?_)
      refine mj_iload_n C 2 dX1_duty_20 (i := 1) rfl rfl ?_
      refine mj_iload_n C 3 dX1_duty_21 (i := 2) rfl rfl ?_
      refine mj_iconst C (v := -1) dX1_duty_22 rfl ?_
      refine mj_ixor C dX1_duty_23 ?_
      refine mj_iand C dX1_duty_24 ?_
      refine mj_iload C 0 dX1_duty_25 rfl ?_
      refine mj_iand C dX1_duty_27 ?_
      refine mj_phi1 81 (fun (v_2 : Int32) => [(0, rf K c), (1, .int l1), (2, .int l2), (3, .int v_2), (4, .int l4)]) (fun (v_2 : Int32) => []) (fun (v_2 : Int32) => h) (fun P' kj_3 => ?_) (fun v_2 => ?_)
      · refine mj_if_eq C 81 dX1_duty_28 (by decide) ?_ ?_
        · exact mj_sub [1, 2, 3, 4, 5] rfl (mj_some (kj_3 l3))
        · refine mj_aload_n C 1 dX1_duty_31 (i := 0) rfl rfl ?_
          refine mj_iload_n C 2 dX1_duty_32 (i := 1) rfl rfl ?_
          refine mj_iload C 0 dX1_duty_33 rfl ?_
          refine mj_iconst C (v := -1) dX1_duty_35 rfl ?_
          refine mj_ixor C dX1_duty_36 ?_
          refine mj_iand C dX1_duty_37 ?_
          refine mj_vI C my_X1_allFrom mv_X1_76 dX1_duty_38 (cn_o hc) rfl (fun a hF => ctX1_allFrom K h c (l1 &&& (l5_1 ^^^ (-1 : Int32))) hc hF) (by decide) (by decide) rfl rfl (Nat.le_of_ble_eq_true rfl) (fun r_4 => ?_)
          refine mj_iload C 0 dX1_duty_41 rfl ?_
          refine mj_iand C dX1_duty_43 ?_
          refine mj_phi1 52 (fun (v_5 : Bool) => [(0, rf K c), (1, .int l1), (2, .int l2), (3, .int l3), (4, .int l4)]) (fun (v_5 : Bool) => [.int (md_bi v_5)]) (fun (v_5 : Bool) => h) (fun P' kj_6 => ?_) (fun v_5 => ?_)
          · refine mj_if_eq C 51 dX1_duty_44 (by decide) ?_ ?_
            · refine mj_iconst C (v := 0) dX1_duty_51 rfl ?_
              exact mj_sub [1, 2, 3, 4, 5] rfl (mj_some (kj_6 false))
            · refine mj_iconst C (v := 1) dX1_duty_47 rfl ?_
              refine mj_goto C 52 dX1_duty_48 (by decide) ?_
              exact mj_sub [1, 2, 3, 4, 5] rfl (mj_some (kj_6 true))
          · refine mj_istore C [(6, .int (md_bi v_5)), (0, rf K c), (1, .int l1), (2, .int l2), (3, .int l3), (4, .int l4)] dX1_duty_52 (by decide) rfl ?_
            refine mj_iload_n C 4 dX1_duty_54 (i := 3) rfl rfl ?_
            refine mj_iload C 0 dX1_duty_55 rfl ?_
            refine mj_phi1 79 (fun (v_7 : Int32) => [(0, rf K c), (1, .int l1), (2, .int l2), (4, .int l4)]) (fun (v_7 : Int32) => [.int v_7, .int l3]) (fun (v_7 : Int32) => h) (fun P' kj_8 => ?_) (fun v_7 => ?_)
            · refine mj_b_eq C 72 dX1_duty_57 (by decide) ?_ ?_
              · refine mj_aload_n C 1 dX1_duty_72 (i := 0) rfl rfl ?_
                refine mj_getR C ff_X1_9 dX1_duty_73 (cn_o hc) rfl ?_
                refine mj_iload C 5 dX1_duty_76 rfl ?_
                refine mj_iald C dX1_duty_78 (cn_4 hc) ?_
                exact mj_sub [1, 2, 3, 5] rfl (mj_some (kj_8 (h (c + 1) (l4).toNatClampNeg)))
              · refine mj_aload_n C 1 dX1_duty_60 (i := 0) rfl rfl ?_
                refine mj_getR C ff_X1_9 dX1_duty_61 (cn_o hc) rfl ?_
                refine mj_iload C 5 dX1_duty_64 rfl ?_
                refine mj_iald C dX1_duty_66 (cn_4 hc) ?_
                refine mj_iconst C (v := 2) dX1_duty_67 rfl ?_
                refine mj_idiv C dX1_duty_68 (by decide) ?_
                refine mj_goto C 79 dX1_duty_69 (by decide) ?_
                exact mj_sub [1, 2, 3, 5] rfl (mj_some (kj_8 ((h (c + 1) (l4).toNatClampNeg) / (2 : Int32))))
            · refine mj_iadd C dX1_duty_79 ?_
              refine mj_istore_nL C (fun l3_9 => [(3, .int l3_9), (0, rf K c), (1, .int l1), (2, .int l2), (4, .int l4)]) dX1_duty_80 (i := 3) rfl (by decide) rfl (fun l3_9 => ?_)
              exact mj_sub [1, 2, 3, 0, 4] rfl (mj_some (kj_3 l3_9))
      · refine mj_iinc C (l4 + 1) 4 [(4, .int (l4 + 1)), (0, rf K c), (1, .int l1), (2, .int l2), (3, .int v_2)] dX1_duty_81 rfl rfl (by decide) rfl ?_
        refine mj_goto C 5 dX1_duty_84 (by decide) ?_
        exact mj_sub [1, 2, 3, 4, 0] rfl (ih h l1 l2 v_2 (l4 + 1) kk0)
noncomputable def fX1_duty (h : Mm) (c : Nat) (l1 : Int32) (l2 : Int32) : Option (Int32) := md_bd (fX1_duty_5 md_N h c l1 l2 (0 : Int32) (0 : Int32)) (fun (v_10 : Int32) => some v_10)
set_option maxRecDepth 100000 in
set_option maxHeartbeats 4000000 in
theorem ctX1_duty (K : Kx) (h : Mm) (c : Nat) (l1 : Int32) (l2 : Int32) (hc : isCnt c) {a : Int32} (hF : fX1_duty h c l1 l2 = some a) : Mt K yX1_duty cX1_duty 7 (some .int) 2 42 SHc [rf K c, .int l1, .int l2] h (some (.int a)) h := by
  refine Mt.of hF [(0, rf K c), (1, .int l1), (2, .int l2)] (by decide) (Nat.le_of_ble_eq_true rfl) rfl (fun Y C N => ?_)
  have C : Cx K Y (0, 0) cX1_duty RX1 7 2 42 := C
  unfold fX1_duty
  refine mj_iconst C (v := 0) dX1_duty_0 rfl ?_
  refine mj_istore_n C [(3, .int (0 : Int32)), (0, rf K c), (1, .int l1), (2, .int l2)] dX1_duty_1 (i := 3) rfl (by decide) rfl ?_
  refine mj_iconst C (v := 0) dX1_duty_2 rfl ?_
  refine mj_istore C [(4, .int (0 : Int32)), (3, .int (0 : Int32)), (0, rf K c), (1, .int l1), (2, .int l2)] dX1_duty_3 (by decide) rfl ?_
  refine mj_phi1 87 (fun (v_10 : Int32) => [(3, .int v_10)]) (fun (v_10 : Int32) => []) (fun (v_10 : Int32) => h) (fun P' kj_11 => mj_sub [2, 3, 4, 1, 0] rfl (lX1_duty_5 c hc C md_N h l1 l2 (0 : Int32) (0 : Int32) kj_11)) (fun v_10 => ?_)
  refine mj_iload_n C 0 dX1_duty_87 (i := 3) rfl rfl ?_
  exact mj_rI C N dX1_duty_88
noncomputable def fX1_quickest_5 : Nat → Mm → Nat → Int32 → Int32 → Int32 → Int32 → Option (Int32)
  | 0, _, _, _, _, _, _ => none
  | n + 1, h, c, l1, l2, l3, l4 => (if (h c 9) ≤ l4 then some l3 else md_ck (md_in l4 10) (md_bd ((if (h (c + 5) (l4).toNatClampNeg) = l1 then md_ck (md_in l4 10) ((if (h (c + 6) (l4).toNatClampNeg) = l2 then some true else some false)) else some false)) (fun (v_1 : Bool) => md_bd ((if v_1 = true then (if l3 = (-1 : Int32) then md_ck (md_in l4 10) (md_lt (h (c + 7) (l4).toNatClampNeg) (fun l3_5 : Int32 => some l3_5)) else md_ck (md_in l4 10) ((if l3 ≤ (h (c + 7) (l4).toNatClampNeg) then some l3 else md_ck (md_in l4 10) (md_lt (h (c + 7) (l4).toNatClampNeg) (fun l3_6 : Int32 => some l3_6))))) else some l3)) (fun (v_3 : Int32) => fX1_quickest_5 n h c l1 l2 v_3 (l4 + 1)))))
set_option maxRecDepth 100000 in
set_option maxHeartbeats 4000000 in
theorem lX1_quickest_5 {K : Kx} {Y : Yx} {cs : Nat × Nat} (c : Nat) (hc : isCnt c) (C : Cx K Y cs cX1_quickest RX1 6 0 0) {P : Int32 → Prop} : ∀ (n : Nat) (h : Mm) (l1 : Int32) (l2 : Int32) (l3 : Int32) (l4 : Int32), (∀ (w3 : Int32), J SHc K Y cs (P w3) 78 [(3, .int w3)] [] h) → J SHc K Y cs (mj_O (fX1_quickest_5 n h c l1 l2 l3 l4) P) 5 [(0, rf K c), (1, .int l1), (2, .int l2), (3, .int l3), (4, .int l4)] [] h := by
  intro n
  induction n with
  | zero => intro h l1 l2 l3 l4 kk0; exact mj_none
  | succ n ih =>
    intro h l1 l2 l3 l4 kk0
    rw [fX1_quickest_5]
    refine mj_iload C 4 dX1_quickest_5 rfl ?_
    refine mj_aload_n C 0 dX1_quickest_7 (i := 0) rfl rfl ?_
    refine mj_getI C ff_X1_56 dX1_quickest_8 (cn_o hc) rfl ?_
    refine mj_icmp_ge C 78 dX1_quickest_11 (by decide) ?_ ?_
    · exact mj_sub [3] rfl (mj_some (kk0 l3))
    · refine mj_aload_n C 0 dX1_quickest_14 (i := 0) rfl rfl ?_
      refine mj_getR C ff_X1_24 dX1_quickest_15 (cn_o hc) rfl ?_
      refine mj_iload C 4 dX1_quickest_18 rfl ?_
      refine mj_iald C dX1_quickest_20 (cn_10 hc) ?_
      refine mj_iload_n C 1 dX1_quickest_21 (i := 1) rfl rfl ?_
      refine mj_phi1 41 (fun (v_1 : Bool) => [(0, rf K c), (1, .int l1), (2, .int l2), (3, .int l3), (4, .int l4)]) (fun (v_1 : Bool) => [.int (md_bi v_1)]) (fun (v_1 : Bool) => h) (fun P' kj_2 => ?_) (fun v_1 => ?_)
      · refine mj_icmp_ne C 40 dX1_quickest_22 (by decide) ?_ ?_
        · refine mj_iconst C (v := 0) dX1_quickest_40 rfl ?_
          exact mj_sub [0, 1, 2, 3, 4] rfl (mj_some (kj_2 false))
        · refine mj_aload_n C 0 dX1_quickest_25 (i := 0) rfl rfl ?_
          refine mj_getR C ff_X1_27 dX1_quickest_26 (cn_o hc) rfl ?_
          refine mj_iload C 4 dX1_quickest_29 rfl ?_
          refine mj_iald C dX1_quickest_31 (cn_11 hc) ?_
          refine mj_iload_n C 2 dX1_quickest_32 (i := 2) rfl rfl ?_
          refine mj_icmp_ne C 40 dX1_quickest_33 (by decide) ?_ ?_
          · refine mj_iconst C (v := 0) dX1_quickest_40 rfl ?_
            exact mj_sub [0, 1, 2, 3, 4] rfl (mj_some (kj_2 false))
          · refine mj_iconst C (v := 1) dX1_quickest_36 rfl ?_
            refine mj_goto C 41 dX1_quickest_37 (by decide) ?_
            exact mj_sub [0, 1, 2, 3, 4] rfl (mj_some (kj_2 true))
      · refine mj_istore C [(5, .int (md_bi v_1)), (0, rf K c), (1, .int l1), (2, .int l2), (3, .int l3), (4, .int l4)] dX1_quickest_41 (by decide) rfl ?_
        refine mj_iload C 0 dX1_quickest_43 rfl ?_
        refine mj_phi1 72 (fun (v_3 : Int32) => [(0, rf K c), (1, .int l1), (2, .int l2), (3, .int v_3), (4, .int l4)]) (fun (v_3 : Int32) => []) (fun (v_3 : Int32) => h) (fun P' kj_4 => ?_) (fun v_3 => ?_)
        · refine mj_b_eq C 72 dX1_quickest_45 (by decide) ?_ ?_
          · exact mj_sub [1, 2, 3, 4, 5] rfl (mj_some (kj_4 l3))
          · refine mj_iload_n C 4 dX1_quickest_48 (i := 3) rfl rfl ?_
            refine mj_iconst C (v := -1) dX1_quickest_49 rfl ?_
            refine mj_icmp_eq C 64 dX1_quickest_50 (by decide) ?_ ?_
            · refine mj_aload_n C 1 dX1_quickest_64 (i := 0) rfl rfl ?_
              refine mj_getR C ff_X1_30 dX1_quickest_65 (cn_o hc) rfl ?_
              refine mj_iload C 5 dX1_quickest_68 rfl ?_
              refine mj_iald C dX1_quickest_70 (cn_12 hc) ?_
              refine mj_istore_nL C (fun l3_5 => [(3, .int l3_5), (5, .int (md_bi v_1)), (0, rf K c), (1, .int l1), (2, .int l2), (4, .int l4)]) dX1_quickest_71 (i := 3) rfl (by decide) rfl (fun l3_5 => ?_)
              exact mj_sub [2, 3, 4, 0, 5] rfl (mj_some (kj_4 l3_5))
            · refine mj_aload_n C 1 dX1_quickest_53 (i := 0) rfl rfl ?_
              refine mj_getR C ff_X1_30 dX1_quickest_54 (cn_o hc) rfl ?_
              refine mj_iload C 5 dX1_quickest_57 rfl ?_
              refine mj_iald C dX1_quickest_59 (cn_12 hc) ?_
              refine mj_iload_n C 4 dX1_quickest_60 (i := 3) rfl rfl ?_
              refine mj_icmp_ge C 72 dX1_quickest_61 (by decide) ?_ ?_
              · exact mj_sub [1, 2, 3, 4, 5] rfl (mj_some (kj_4 l3))
              · refine mj_aload_n C 1 dX1_quickest_64 (i := 0) rfl rfl ?_
                refine mj_getR C ff_X1_30 dX1_quickest_65 (cn_o hc) rfl ?_
                refine mj_iload C 5 dX1_quickest_68 rfl ?_
                refine mj_iald C dX1_quickest_70 (cn_12 hc) ?_
                refine mj_istore_nL C (fun l3_6 => [(3, .int l3_6), (5, .int (md_bi v_1)), (0, rf K c), (1, .int l1), (2, .int l2), (4, .int l4)]) dX1_quickest_71 (i := 3) rfl (by decide) rfl (fun l3_6 => ?_)
                exact mj_sub [2, 3, 4, 0, 5] rfl (mj_some (kj_4 l3_6))
        · refine mj_iinc C (l4 + 1) 4 [(4, .int (l4 + 1)), (0, rf K c), (1, .int l1), (2, .int l2), (3, .int v_3)] dX1_quickest_72 rfl rfl (by decide) rfl ?_
          refine mj_goto C 5 dX1_quickest_75 (by decide) ?_
          exact mj_sub [1, 2, 3, 4, 0] rfl (ih h l1 l2 v_3 (l4 + 1) kk0)
noncomputable def fX1_quickest (h : Mm) (c : Nat) (l1 : Int32) (l2 : Int32) : Option (Int32) := md_bd (fX1_quickest_5 md_N h c l1 l2 (-1 : Int32) (0 : Int32)) (fun (v_7 : Int32) => some v_7)
set_option maxRecDepth 100000 in
set_option maxHeartbeats 4000000 in
theorem ctX1_quickest (K : Kx) (h : Mm) (c : Nat) (l1 : Int32) (l2 : Int32) (hc : isCnt c) {a : Int32} (hF : fX1_quickest h c l1 l2 = some a) : Mt K yX1_quickest cX1_quickest 6 (some .int) 0 0 SHc [rf K c, .int l1, .int l2] h (some (.int a)) h := by
  refine Mt.of hF [(0, rf K c), (1, .int l1), (2, .int l2)] (by decide) (Nat.le_of_ble_eq_true rfl) rfl (fun Y C N => ?_)
  have C : Cx K Y (0, 0) cX1_quickest RX1 6 0 0 := C
  unfold fX1_quickest
  refine mj_iconst C (v := -1) dX1_quickest_0 rfl ?_
  refine mj_istore_n C [(3, .int (-1 : Int32)), (0, rf K c), (1, .int l1), (2, .int l2)] dX1_quickest_1 (i := 3) rfl (by decide) rfl ?_
  refine mj_iconst C (v := 0) dX1_quickest_2 rfl ?_
  refine mj_istore C [(4, .int (0 : Int32)), (3, .int (-1 : Int32)), (0, rf K c), (1, .int l1), (2, .int l2)] dX1_quickest_3 (by decide) rfl ?_
  refine mj_phi1 78 (fun (v_7 : Int32) => [(3, .int v_7)]) (fun (v_7 : Int32) => []) (fun (v_7 : Int32) => h) (fun P' kj_8 => mj_sub [2, 3, 4, 1, 0] rfl (lX1_quickest_5 c hc C md_N h l1 l2 (-1 : Int32) (0 : Int32) kj_8)) (fun v_7 => ?_)
  refine mj_iload_n C 0 dX1_quickest_78 (i := 3) rfl rfl ?_
  exact mj_rI C N dX1_quickest_79
noncomputable def fX1_findMinutes_2 : Nat → Mm → Nat → Nat → Nat → Int32 → Int32 → Option (Mm)
  | 0, _, _, _, _, _, _ => none
  | n + 1, h, c, a2, n2, l1, l3 => (if (8 : Int32) ≤ l3 then some h else md_bd ((if l3 = l1 then some (0 : Int32) else some (-1 : Int32))) (fun (v_1 : Int32) => md_ck (md_in l3 n2) (md_lt (md_up h a2 (l3).toNatClampNeg v_1) (fun h_3 : Mm => fX1_findMinutes_2 n h_3 c a2 n2 l1 (l3 + 1)))))
set_option maxRecDepth 100000 in
set_option maxHeartbeats 4000000 in
theorem lX1_findMinutes_2 {K : Kx} {Y : Yx} {cs : Nat × Nat} (c : Nat) (a2 : Nat) (n2 : Nat) (hc : isCnt c) (ha2 : SHc[a2]? = some (.inr (0, n2, 0, 0))) (C : Cx K Y cs cX1_findMinutes RX1 7 0 0) {P : Mm → Prop} : ∀ (n : Nat) (h : Mm) (l1 : Int32) (l3 : Int32), (∀ (hw : Mm), J SHc K Y cs (P hw) 27 [(0, rf K c), (2, rf K a2)] [] hw) → J SHc K Y cs (mj_O (fX1_findMinutes_2 n h c a2 n2 l1 l3) P) 2 [(0, rf K c), (1, .int l1), (2, rf K a2), (3, .int l3)] [] h := by
  intro n
  induction n with
  | zero => intro h l1 l3 kk0; exact mj_none
  | succ n ih =>
    intro h l1 l3 kk0
    rw [fX1_findMinutes_2]
    refine mj_iload_n C 3 dX1_findMinutes_2 (i := 3) rfl rfl ?_
    refine mj_bipush C (v := 8) dX1_findMinutes_3 rfl ?_
    refine mj_icmp_ge C 27 dX1_findMinutes_5 (by decide) ?_ ?_
    · exact mj_sub [0, 2] rfl (mj_some (kk0 h))
    · refine mj_aload_n C 2 dX1_findMinutes_8 (i := 2) rfl rfl ?_
      refine mj_iload_n C 3 dX1_findMinutes_9 (i := 3) rfl rfl ?_
      refine mj_iload_n C 3 dX1_findMinutes_10 (i := 3) rfl rfl ?_
      refine mj_iload_n C 1 dX1_findMinutes_11 (i := 1) rfl rfl ?_
      refine mj_phi1 20 (fun (v_1 : Int32) => [(0, rf K c), (1, .int l1), (2, rf K a2), (3, .int l3)]) (fun (v_1 : Int32) => [.int v_1, .int l3, rf K a2]) (fun (v_1 : Int32) => h) (fun P' kj_2 => ?_) (fun v_1 => ?_)
      · refine mj_icmp_ne C 19 dX1_findMinutes_12 (by decide) ?_ ?_
        · refine mj_iconst C (v := -1) dX1_findMinutes_19 rfl ?_
          exact mj_sub [0, 1, 2, 3] rfl (mj_some (kj_2 (-1 : Int32)))
        · refine mj_iconst C (v := 0) dX1_findMinutes_15 rfl ?_
          refine mj_goto C 20 dX1_findMinutes_16 (by decide) ?_
          exact mj_sub [0, 1, 2, 3] rfl (mj_some (kj_2 (0 : Int32)))
      · refine mj_iast C dX1_findMinutes_20 ha2 (fun h_3 => ?_)
        refine mj_iinc C (l3 + 1) 3 [(3, .int (l3 + 1)), (0, rf K c), (1, .int l1), (2, rf K a2)] dX1_findMinutes_21 rfl rfl (by decide) rfl ?_
        refine mj_goto C 2 dX1_findMinutes_24 (by decide) ?_
        exact mj_sub [1, 2, 3, 0] rfl (ih h_3 l1 (l3 + 1) kk0)
noncomputable def fX1_findMinutes_40 : Nat → Mm → Nat → Nat → Nat → Int32 → Int32 → Option (Mm)
  | 0, _, _, _, _, _, _ => none
  | n + 1, h, c, a2, n2, l3, l4 => (if (h c 9) ≤ l4 then some h else md_ck (md_in l4 10) (md_ck (md_in (h (c + 6) (l4).toNatClampNeg) n2) (md_lt (h a2 ((h (c + 6) (l4).toNatClampNeg)).toNatClampNeg) (fun l5_5 : Int32 => md_ck (md_in l4 10) (md_ck (md_in (h (c + 5) (l4).toNatClampNeg) n2) (md_lt (h a2 ((h (c + 5) (l4).toNatClampNeg)).toNatClampNeg) (fun l6_6 : Int32 => md_bd ((if l5_5 = (-1 : Int32) then some h else (if l6_6 = (-1 : Int32) then md_ck (md_in l4 10) (md_ck (md_in l4 10) (md_ck (md_in (h (c + 5) (l4).toNatClampNeg) n2) (md_lt (md_up h a2 ((h (c + 5) (l4).toNatClampNeg)).toNatClampNeg ((h (c + 7) (l4).toNatClampNeg) + l5_5)) (fun h_9 : Mm => some h_9)))) else md_ck (md_in l4 10) ((if l6_6 ≤ ((h (c + 7) (l4).toNatClampNeg) + l5_5) then some h else md_ck (md_in l4 10) (md_ck (md_in l4 10) (md_ck (md_in (h (c + 5) (l4).toNatClampNeg) n2) (md_lt (md_up h a2 ((h (c + 5) (l4).toNatClampNeg)).toNatClampNeg ((h (c + 7) (l4).toNatClampNeg) + l5_5)) (fun h_10 : Mm => some h_10))))))))) (fun (h_7 : Mm) => fX1_findMinutes_40 n h_7 c a2 n2 l3 (l4 + 1)))))))))
set_option maxRecDepth 100000 in
set_option maxHeartbeats 4000000 in
theorem lX1_findMinutes_40 {K : Kx} {Y : Yx} {cs : Nat × Nat} (c : Nat) (a2 : Nat) (n2 : Nat) (hc : isCnt c) (ha2 : SHc[a2]? = some (.inr (0, n2, 0, 0))) (C : Cx K Y cs cX1_findMinutes RX1 7 0 0) {P : Mm → Prop} : ∀ (n : Nat) (h : Mm) (l3 : Int32) (l4 : Int32), (∀ (hw : Mm), J SHc K Y cs (P hw) 123 [(0, rf K c), (2, rf K a2), (3, .int l3)] [] hw) → J SHc K Y cs (mj_O (fX1_findMinutes_40 n h c a2 n2 l3 l4) P) 40 [(0, rf K c), (2, rf K a2), (3, .int l3), (4, .int l4)] [] h := by
  intro n
  induction n with
  | zero => intro h l3 l4 kk0; exact mj_none
  | succ n ih =>
    intro h l3 l4 kk0
    rw [fX1_findMinutes_40]
    refine mj_iload C 3 dX1_findMinutes_40 rfl ?_
    refine mj_aload_n C 0 dX1_findMinutes_42 (i := 0) rfl rfl ?_
    refine mj_getI C ff_X1_56 dX1_findMinutes_43 (cn_o hc) rfl ?_
    refine mj_icmp_ge C 123 dX1_findMinutes_46 (by decide) ?_ ?_
    · exact mj_sub [0, 1, 2] rfl (mj_some (kk0 h))
    · refine mj_aload_n C 1 dX1_findMinutes_49 (i := 2) rfl rfl ?_
      refine mj_aload_n C 0 dX1_findMinutes_50 (i := 0) rfl rfl ?_
      refine mj_getR C ff_X1_27 dX1_findMinutes_51 (cn_o hc) rfl ?_
      refine mj_iload C 3 dX1_findMinutes_54 rfl ?_
      refine mj_iald C dX1_findMinutes_56 (cn_11 hc) ?_
      refine mj_iald C dX1_findMinutes_57 ha2 ?_
      refine mj_istoreL C (fun l5_5 => [(5, .int l5_5), (0, rf K c), (2, rf K a2), (3, .int l3), (4, .int l4)]) dX1_findMinutes_58 (by decide) rfl (fun l5_5 => ?_)
      refine mj_aload_n C 2 dX1_findMinutes_60 (i := 2) rfl rfl ?_
      refine mj_aload_n C 1 dX1_findMinutes_61 (i := 0) rfl rfl ?_
      refine mj_getR C ff_X1_24 dX1_findMinutes_62 (cn_o hc) rfl ?_
      refine mj_iload C 4 dX1_findMinutes_65 rfl ?_
      refine mj_iald C dX1_findMinutes_67 (cn_10 hc) ?_
      refine mj_iald C dX1_findMinutes_68 ha2 ?_
      refine mj_istoreL C (fun l6_6 => [(6, .int l6_6), (5, .int l5_5), (0, rf K c), (2, rf K a2), (3, .int l3), (4, .int l4)]) dX1_findMinutes_69 (by decide) rfl (fun l6_6 => ?_)
      refine mj_iload C 1 dX1_findMinutes_71 rfl ?_
      refine mj_iconst C (v := -1) dX1_findMinutes_73 rfl ?_
      refine mj_phi1 117 (fun (h_7 : Mm) => [(0, rf K c), (2, rf K a2), (3, .int l3), (4, .int l4)]) (fun (h_7 : Mm) => []) (fun (h_7 : Mm) => h_7) (fun P' kj_8 => ?_) (fun h_7 => ?_)
      · refine mj_icmp_eq C 117 dX1_findMinutes_74 (by decide) ?_ ?_
        · exact mj_sub [2, 3, 4, 5] rfl (mj_some (kj_8 h))
        · refine mj_iload C 0 dX1_findMinutes_77 rfl ?_
          refine mj_iconst C (v := -1) dX1_findMinutes_79 rfl ?_
          refine mj_icmp_eq C 98 dX1_findMinutes_80 (by decide) ?_ ?_
          · refine mj_aload_n C 3 dX1_findMinutes_98 (i := 2) rfl rfl ?_
            refine mj_aload_n C 2 dX1_findMinutes_99 (i := 0) rfl rfl ?_
            refine mj_getR C ff_X1_24 dX1_findMinutes_100 (cn_o hc) rfl ?_
            refine mj_iload C 5 dX1_findMinutes_103 rfl ?_
            refine mj_iald C dX1_findMinutes_105 (cn_10 hc) ?_
            refine mj_aload_n C 2 dX1_findMinutes_106 (i := 0) rfl rfl ?_
            refine mj_getR C ff_X1_30 dX1_findMinutes_107 (cn_o hc) rfl ?_
            refine mj_iload C 5 dX1_findMinutes_110 rfl ?_
            refine mj_iald C dX1_findMinutes_112 (cn_12 hc) ?_
            refine mj_iload C 1 dX1_findMinutes_113 rfl ?_
            refine mj_iadd C dX1_findMinutes_115 ?_
            refine mj_iast C dX1_findMinutes_116 ha2 (fun h_9 => ?_)
            exact mj_sub [2, 3, 4, 5] rfl (mj_some (kj_8 h_9))
          · refine mj_aload_n C 2 dX1_findMinutes_83 (i := 0) rfl rfl ?_
            refine mj_getR C ff_X1_30 dX1_findMinutes_84 (cn_o hc) rfl ?_
            refine mj_iload C 5 dX1_findMinutes_87 rfl ?_
            refine mj_iald C dX1_findMinutes_89 (cn_12 hc) ?_
            refine mj_iload C 1 dX1_findMinutes_90 rfl ?_
            refine mj_iadd C dX1_findMinutes_92 ?_
            refine mj_iload C 0 dX1_findMinutes_93 rfl ?_
            refine mj_icmp_ge C 117 dX1_findMinutes_95 (by decide) ?_ ?_
            · exact mj_sub [2, 3, 4, 5] rfl (mj_some (kj_8 h))
            · refine mj_aload_n C 3 dX1_findMinutes_98 (i := 2) rfl rfl ?_
              refine mj_aload_n C 2 dX1_findMinutes_99 (i := 0) rfl rfl ?_
              refine mj_getR C ff_X1_24 dX1_findMinutes_100 (cn_o hc) rfl ?_
              refine mj_iload C 5 dX1_findMinutes_103 rfl ?_
              refine mj_iald C dX1_findMinutes_105 (cn_10 hc) ?_
              refine mj_aload_n C 2 dX1_findMinutes_106 (i := 0) rfl rfl ?_
              refine mj_getR C ff_X1_30 dX1_findMinutes_107 (cn_o hc) rfl ?_
              refine mj_iload C 5 dX1_findMinutes_110 rfl ?_
              refine mj_iald C dX1_findMinutes_112 (cn_12 hc) ?_
              refine mj_iload C 1 dX1_findMinutes_113 rfl ?_
              refine mj_iadd C dX1_findMinutes_115 ?_
              refine mj_iast C dX1_findMinutes_116 ha2 (fun h_10 => ?_)
              exact mj_sub [2, 3, 4, 5] rfl (mj_some (kj_8 h_10))
      · refine mj_iinc C (l4 + 1) 3 [(4, .int (l4 + 1)), (0, rf K c), (2, rf K a2), (3, .int l3)] dX1_findMinutes_117 rfl rfl (by decide) rfl ?_
        refine mj_goto C 40 dX1_findMinutes_120 (by decide) ?_
        exact mj_sub [1, 2, 3, 0] rfl (ih h_7 l3 (l4 + 1) kk0)
noncomputable def fX1_findMinutes_29 : Nat → Mm → Nat → Nat → Nat → Int32 → Option (Mm)
  | 0, _, _, _, _, _ => none
  | n + 1, h, c, a2, n2, l3 => (if (h c 3) ≤ l3 then some h else md_bd (fX1_findMinutes_40 md_N h c a2 n2 l3 (0 : Int32)) (fun (h_11 : Mm) => fX1_findMinutes_29 n h_11 c a2 n2 (l3 + 1)))
set_option maxRecDepth 100000 in
set_option maxHeartbeats 4000000 in
theorem lX1_findMinutes_29 {K : Kx} {Y : Yx} {cs : Nat × Nat} (c : Nat) (a2 : Nat) (n2 : Nat) (hc : isCnt c) (ha2 : SHc[a2]? = some (.inr (0, n2, 0, 0))) (C : Cx K Y cs cX1_findMinutes RX1 7 0 0) {P : Mm → Prop} : ∀ (n : Nat) (h : Mm) (l3 : Int32), (∀ (hw : Mm), J SHc K Y cs (P hw) 129 [] [] hw) → J SHc K Y cs (mj_O (fX1_findMinutes_29 n h c a2 n2 l3) P) 29 [(0, rf K c), (2, rf K a2), (3, .int l3)] [] h := by
  intro n
  induction n with
  | zero => intro h l3 kk0; exact mj_none
  | succ n ih =>
    intro h l3 kk0
    rw [fX1_findMinutes_29]
    refine mj_iload_n C 2 dX1_findMinutes_29 (i := 3) rfl rfl ?_
    refine mj_aload_n C 0 dX1_findMinutes_30 (i := 0) rfl rfl ?_
    refine mj_getI C ff_X1_50 dX1_findMinutes_31 (cn_o hc) rfl ?_
    refine mj_icmp_ge C 129 dX1_findMinutes_34 (by decide) ?_ ?_
    · exact mj_sub [] rfl (mj_some (kk0 h))
    · refine mj_iconst C (v := 0) dX1_findMinutes_37 rfl ?_
      refine mj_istore C [(4, .int (0 : Int32)), (0, rf K c), (2, rf K a2), (3, .int l3)] dX1_findMinutes_38 (by decide) rfl ?_
      refine mj_phi1 123 (fun (h_11 : Mm) => [(0, rf K c), (2, rf K a2), (3, .int l3)]) (fun (h_11 : Mm) => []) (fun (h_11 : Mm) => h_11) (fun P' kj_12 => mj_sub [1, 2, 3, 0] rfl (lX1_findMinutes_40 c a2 n2 hc ha2 C md_N h l3 (0 : Int32) kj_12)) (fun h_11 => ?_)
      refine mj_iinc C (l3 + 1) 2 [(3, .int (l3 + 1)), (0, rf K c), (2, rf K a2)] dX1_findMinutes_123 rfl rfl (by decide) rfl ?_
      refine mj_goto C 29 dX1_findMinutes_126 (by decide) ?_
      exact mj_sub [1, 2, 0] rfl (ih h_11 (l3 + 1) kk0)
noncomputable def fX1_findMinutes (h : Mm) (c : Nat) (a2 : Nat) (n2 : Nat) (l1 : Int32) : Option (Mm) := md_bd (fX1_findMinutes_2 md_N h c a2 n2 l1 (0 : Int32)) (fun (h_4 : Mm) => md_bd (fX1_findMinutes_29 md_N h_4 c a2 n2 (1 : Int32)) (fun (h_13 : Mm) => some h_13))
set_option maxRecDepth 100000 in
set_option maxHeartbeats 4000000 in
theorem ctX1_findMinutes (K : Kx) (h : Mm) (c : Nat) (a2 : Nat) (n2 : Nat) (l1 : Int32) (hc : isCnt c) (ha2 : SHc[a2]? = some (.inr (0, n2, 0, 0))) {a : Mm} (hF : fX1_findMinutes h c a2 n2 l1 = some a) : Mt K yX1_findMinutes cX1_findMinutes 7 none 0 0 SHc [rf K c, .int l1, rf K a2] h none a := by
  refine Mt.of hF [(0, rf K c), (1, .int l1), (2, rf K a2)] (by decide) (Nat.le_of_ble_eq_true rfl) rfl (fun Y C N => ?_)
  have C : Cx K Y (0, 0) cX1_findMinutes RX1 7 0 0 := C
  unfold fX1_findMinutes
  refine mj_iconst C (v := 0) dX1_findMinutes_0 rfl ?_
  refine mj_istore_n C [(3, .int (0 : Int32)), (0, rf K c), (1, .int l1), (2, rf K a2)] dX1_findMinutes_1 (i := 3) rfl (by decide) rfl ?_
  refine mj_phi1 27 (fun (h_4 : Mm) => [(0, rf K c), (2, rf K a2)]) (fun (h_4 : Mm) => []) (fun (h_4 : Mm) => h_4) (fun P' kj_15 => mj_sub [1, 2, 3, 0] rfl (lX1_findMinutes_2 c a2 n2 hc ha2 C md_N h l1 (0 : Int32) kj_15)) (fun h_4 => ?_)
  refine mj_iconst C (v := 1) dX1_findMinutes_27 rfl ?_
  refine mj_istore_n C [(3, .int (1 : Int32)), (0, rf K c), (2, rf K a2)] dX1_findMinutes_28 (i := 3) rfl (by decide) rfl ?_
  refine mj_phi1 129 (fun (h_13 : Mm) => []) (fun (h_13 : Mm) => []) (fun (h_13 : Mm) => h_13) (fun P' kj_14 => mj_sub [1, 2, 0] rfl (lX1_findMinutes_29 c a2 n2 hc ha2 C md_N h_4 (1 : Int32) kj_14)) (fun h_13 => ?_)
  exact mj_rV C N dX1_findMinutes_129
noncomputable def fX4_become_2 : Nat → Mm → Nat → Nat → Int32 → Option (Mm)
  | 0, _, _, _, _ => none
  | n + 1, h, c, c1, l2 => (if (5 : Int32) ≤ l2 then some h else md_ck (md_in l2 5) (md_ck (md_in l2 5) (md_lt (md_up h (c + 1) (l2).toNatClampNeg (h (c1 + 1) (l2).toNatClampNeg)) (fun h_1 : Mm => fX4_become_2 n h_1 c c1 (l2 + 1)))))
set_option maxRecDepth 100000 in
set_option maxHeartbeats 4000000 in
theorem lX4_become_2 {K : Kx} {Y : Yx} {cs : Nat × Nat} (c : Nat) (c1 : Nat) (hc : isPst c) (hc1 : isPst c1) (C : Cx K Y cs cX4_become RX4 3 0 0) {P : Mm → Prop} : ∀ (n : Nat) (h : Mm) (l2 : Int32), (∀ (hw : Mm), J SHc K Y cs (P hw) 25 [(0, rf K c), (1, rf K c1)] [] hw) → J SHc K Y cs (mj_O (fX4_become_2 n h c c1 l2) P) 2 [(0, rf K c), (1, rf K c1), (2, .int l2)] [] h := by
  intro n
  induction n with
  | zero => intro h l2 kk0; exact mj_none
  | succ n ih =>
    intro h l2 kk0
    rw [fX4_become_2]
    refine mj_iload_n C 2 dX4_become_2 (i := 2) rfl rfl ?_
    refine mj_iconst C (v := 5) dX4_become_3 rfl ?_
    refine mj_icmp_ge C 25 dX4_become_4 (by decide) ?_ ?_
    · exact mj_sub [0, 1] rfl (mj_some (kk0 h))
    · refine mj_aload_n C 0 dX4_become_7 (i := 0) rfl rfl ?_
      refine mj_getR C ff_X4_9 dX4_become_8 (ps_o hc) rfl ?_
      refine mj_iload_n C 2 dX4_become_11 (i := 2) rfl rfl ?_
      refine mj_aload_n C 1 dX4_become_12 (i := 1) rfl rfl ?_
      refine mj_getR C ff_X4_9 dX4_become_13 (ps_o hc1) rfl ?_
      refine mj_iload_n C 2 dX4_become_16 (i := 2) rfl rfl ?_
      refine mj_iald C dX4_become_17 (ps_0 hc1) ?_
      refine mj_iast C dX4_become_18 (ps_0 hc) (fun h_1 => ?_)
      refine mj_iinc C (l2 + 1) 2 [(2, .int (l2 + 1)), (0, rf K c), (1, rf K c1)] dX4_become_19 rfl rfl (by decide) rfl ?_
      refine mj_goto C 2 dX4_become_22 (by decide) ?_
      exact mj_sub [1, 2, 0] rfl (ih h_1 (l2 + 1) kk0)
noncomputable def fX4_become (h : Mm) (c : Nat) (c1 : Nat) : Option (Mm) := md_bd (fX4_become_2 md_N h c c1 (0 : Int32)) (fun (h_2 : Mm) => md_lt (md_up h_2 c 1 (h_2 c1 1)) (fun h_3 : Mm => md_lt (md_up h_3 c 2 (h_3 c1 2)) (fun h_4 : Mm => md_lt (md_up h_4 c 3 (h_4 c1 3)) (fun h_5 : Mm => md_lt (md_up h_5 c 4 (h_5 c1 4)) (fun h_6 : Mm => some h_6)))))
set_option maxRecDepth 100000 in
set_option maxHeartbeats 4000000 in
theorem ctX4_become (K : Kx) (h : Mm) (c : Nat) (c1 : Nat) (hc : isPst c) (hc1 : isPst c1) {a : Mm} (hF : fX4_become h c c1 = some a) : Mt K yX4_become cX4_become 3 none 0 0 SHc [rf K c, rf K c1] h none a := by
  refine Mt.of hF [(0, rf K c), (1, rf K c1)] (by decide) (Nat.le_of_ble_eq_true rfl) rfl (fun Y C N => ?_)
  have C : Cx K Y (0, 0) cX4_become RX4 3 0 0 := C
  unfold fX4_become
  refine mj_iconst C (v := 0) dX4_become_0 rfl ?_
  refine mj_istore_n C [(2, .int (0 : Int32)), (0, rf K c), (1, rf K c1)] dX4_become_1 (i := 2) rfl (by decide) rfl ?_
  refine mj_phi1 25 (fun (h_2 : Mm) => [(0, rf K c), (1, rf K c1)]) (fun (h_2 : Mm) => []) (fun (h_2 : Mm) => h_2) (fun P' kj_7 => mj_sub [1, 2, 0] rfl (lX4_become_2 c c1 hc hc1 C md_N h (0 : Int32) kj_7)) (fun h_2 => ?_)
  refine mj_aload_n C 0 dX4_become_25 (i := 0) rfl rfl ?_
  refine mj_aload_n C 1 dX4_become_26 (i := 1) rfl rfl ?_
  refine mj_getI C ff_X4_26 dX4_become_27 (ps_o hc1) rfl ?_
  refine mj_putL C fp_X4_26 dX4_become_30 (ps_o hc) rfl rfl rfl (fun h_3 => ?_)
  refine mj_aload_n C 0 dX4_become_33 (i := 0) rfl rfl ?_
  refine mj_aload_n C 1 dX4_become_34 (i := 1) rfl rfl ?_
  refine mj_getI C ff_X4_27 dX4_become_35 (ps_o hc1) rfl ?_
  refine mj_putL C fp_X4_27 dX4_become_38 (ps_o hc) rfl rfl rfl (fun h_4 => ?_)
  refine mj_aload_n C 0 dX4_become_41 (i := 0) rfl rfl ?_
  refine mj_aload_n C 1 dX4_become_42 (i := 1) rfl rfl ?_
  refine mj_getI C ff_X4_30 dX4_become_43 (ps_o hc1) rfl ?_
  refine mj_putL C fp_X4_30 dX4_become_46 (ps_o hc) rfl rfl rfl (fun h_5 => ?_)
  refine mj_aload_n C 0 dX4_become_49 (i := 0) rfl rfl ?_
  refine mj_aload_n C 1 dX4_become_50 (i := 1) rfl rfl ?_
  refine mj_getI C ff_X4_33 dX4_become_51 (ps_o hc1) rfl ?_
  refine mj_putL C fp_X4_33 dX4_become_54 (ps_o hc) rfl rfl rfl (fun h_6 => ?_)
  exact mj_rV C N dX4_become_57
noncomputable def fX2_take (h : Mm) (c2 : Nat) (l1 : Int32) (l3 : Int32) : Option (Mm) := md_bd ((if l1 < 0 then some h else (if (2 : Int32) ≤ l1 then some h else md_ck (md_in l1 2) (md_bd (fX4_become h (61 + 2 * (l1).toNatClampNeg) c2) (fun h_4 => md_ck (md_in l1 2) (md_lt (md_up h_4 59 (l1).toNatClampNeg l3) (fun h_5 : Mm => md_ck (md_in l1 2) (md_lt (md_up h_5 60 (l1).toNatClampNeg (md_bi true)) (fun h_6 : Mm => some h_6))))))))) (fun (h_1 : Mm) => some h_1)
set_option maxRecDepth 100000 in
set_option maxHeartbeats 4000000 in
theorem ctX2_take (K : Kx) (h : Mm) (c2 : Nat) (l1 : Int32) (l3 : Int32) (hc2 : isPst c2) {a : Mm} (hF : fX2_take h c2 l1 l3 = some a) : Mt K yX2_take cX2_take 4 none 1 22 SHc [rf K 57, .int l1, rf K c2, .int l3] h none a := by
  refine Mt.of hF [(0, rf K 57), (1, .int l1), (2, rf K c2), (3, .int l3)] (by decide) (Nat.le_of_ble_eq_true rfl) rfl (fun Y C N => ?_)
  have C : Cx K Y (0, 0) cX2_take RX2 4 1 22 := C
  unfold fX2_take
  refine mj_iload_n C 1 dX2_take_0 (i := 1) rfl rfl ?_
  refine mj_phi1 33 (fun (h_1 : Mm) => []) (fun (h_1 : Mm) => []) (fun (h_1 : Mm) => h_1) (fun P' kj_2 => ?_) (fun h_1 => ?_)
  · refine mj_if_lt C 33 dX2_take_1 (by decide) ?_ ?_
    · exact mj_sub [] rfl (mj_some (kj_2 h))
    · refine mj_iload_n C 1 dX2_take_4 (i := 1) rfl rfl ?_
      refine mj_iconst C (v := 2) dX2_take_5 rfl ?_
      refine mj_icmp_ge C 33 dX2_take_6 (by decide) ?_ ?_
      · exact mj_sub [] rfl (mj_some (kj_2 h))
      · refine mj_aload_n C 0 dX2_take_9 (i := 0) rfl rfl ?_
        refine mj_getR C ff_X2_11 dX2_take_10 sh_57 rfl ?_
        refine mj_iload_n C 1 dX2_take_13 (i := 1) rfl rfl ?_
        refine mj_aald C dX2_take_14 sh_58 (fun hp_3 => ?_)
        refine mj_aload_n C 2 dX2_take_15 (i := 2) rfl rfl ?_
        refine mj_vM C my_X4_become mv_X2_26 dX2_take_16 (ps_o (ps_img hp_3)) rfl (fun a hF => ctX4_become K h (61 + 2 * (l1).toNatClampNeg) c2 (ps_img hp_3) hc2 hF) (by decide) (by decide) rfl rfl (Nat.le_of_ble_eq_true rfl) (fun h_4 => ?_)
        refine mj_aload_n C 0 dX2_take_19 (i := 0) rfl rfl ?_
        refine mj_getR C ff_X2_17 dX2_take_20 sh_57 rfl ?_
        refine mj_iload_n C 1 dX2_take_23 (i := 1) rfl rfl ?_
        refine mj_iload_n C 3 dX2_take_24 (i := 3) rfl rfl ?_
        refine mj_iast C dX2_take_25 sh_59 (fun h_5 => ?_)
        refine mj_aload_n C 0 dX2_take_26 (i := 0) rfl rfl ?_
        refine mj_getR C ff_X2_21 dX2_take_27 sh_57 rfl ?_
        refine mj_iload_n C 1 dX2_take_30 (i := 1) rfl rfl ?_
        refine mj_iconst C (v := 1) dX2_take_31 rfl ?_
        refine mj_zast C (v := true) dX2_take_32 sh_60 (fun h_6 => ?_)
        exact mj_sub [] rfl (mj_some (kj_2 h_6))
  · exact mj_rV C N dX2_take_33
noncomputable def fX2_forget_2 : Nat → Mm → Int32 → Option (Mm)
  | 0, _, _ => none
  | n + 1, h, l1 => (if (2 : Int32) ≤ l1 then some h else md_ck (md_in l1 2) (md_lt (md_up h 60 (l1).toNatClampNeg (md_bi false)) (fun h_1 : Mm => fX2_forget_2 n h_1 (l1 + 1))))
set_option maxRecDepth 100000 in
set_option maxHeartbeats 4000000 in
theorem lX2_forget_2 {K : Kx} {Y : Yx} {cs : Nat × Nat} (C : Cx K Y cs cX2_forget RX2 2 0 0) {P : Mm → Prop} : ∀ (n : Nat) (h : Mm) (l1 : Int32), (∀ (hw : Mm), J SHc K Y cs (P hw) 20 [] [] hw) → J SHc K Y cs (mj_O (fX2_forget_2 n h l1) P) 2 [(0, rf K 57), (1, .int l1)] [] h := by
  intro n
  induction n with
  | zero => intro h l1 kk0; exact mj_none
  | succ n ih =>
    intro h l1 kk0
    rw [fX2_forget_2]
    refine mj_iload_n C 1 dX2_forget_2 (i := 1) rfl rfl ?_
    refine mj_iconst C (v := 2) dX2_forget_3 rfl ?_
    refine mj_icmp_ge C 20 dX2_forget_4 (by decide) ?_ ?_
    · exact mj_sub [] rfl (mj_some (kk0 h))
    · refine mj_aload_n C 0 dX2_forget_7 (i := 0) rfl rfl ?_
      refine mj_getR C ff_X2_21 dX2_forget_8 sh_57 rfl ?_
      refine mj_iload_n C 1 dX2_forget_11 (i := 1) rfl rfl ?_
      refine mj_iconst C (v := 0) dX2_forget_12 rfl ?_
      refine mj_zast C (v := false) dX2_forget_13 sh_60 (fun h_1 => ?_)
      refine mj_iinc C (l1 + 1) 1 [(1, .int (l1 + 1)), (0, rf K 57)] dX2_forget_14 rfl rfl (by decide) rfl ?_
      refine mj_goto C 2 dX2_forget_17 (by decide) ?_
      exact mj_sub [1, 0] rfl (ih h_1 (l1 + 1) kk0)
noncomputable def fX2_forget (h : Mm) : Option (Mm) := md_bd (fX2_forget_2 md_N h (0 : Int32)) (fun (h_2 : Mm) => some h_2)
set_option maxRecDepth 100000 in
set_option maxHeartbeats 4000000 in
theorem ctX2_forget (K : Kx) (h : Mm) {a : Mm} (hF : fX2_forget h = some a) : Mt K yX2_forget cX2_forget 2 none 0 0 SHc [rf K 57] h none a := by
  refine Mt.of hF [(0, rf K 57)] (by decide) (Nat.le_of_ble_eq_true rfl) rfl (fun Y C N => ?_)
  have C : Cx K Y (0, 0) cX2_forget RX2 2 0 0 := C
  unfold fX2_forget
  refine mj_iconst C (v := 0) dX2_forget_0 rfl ?_
  refine mj_istore_n C [(1, .int (0 : Int32)), (0, rf K 57)] dX2_forget_1 (i := 1) rfl (by decide) rfl ?_
  refine mj_phi1 20 (fun (h_2 : Mm) => []) (fun (h_2 : Mm) => []) (fun (h_2 : Mm) => h_2) (fun P' kj_3 => mj_sub [1, 0] rfl (lX2_forget_2 C md_N h (0 : Int32) kj_3)) (fun h_2 => ?_)
  exact mj_rV C N dX2_forget_20
noncomputable def fX3_remember (h : Mm) (c1 : Nat) : Option (Mm) := md_ck (md_in (h 15 1) 20) (md_bd (fX4_become h (17 + 2 * ((h 15 1)).toNatClampNeg) c1) (fun h_2 => md_lt (md_up h_2 15 1 (((h_2 15 1) + (1 : Int32)) - ((h_2 15 1) + (1 : Int32)) / (20 : Int32) * (20 : Int32))) (fun h_3 : Mm => md_lt (md_up h_3 15 2 (if (20 : Int32) < ((h_3 15 2) + (1 : Int32)) then (20 : Int32) else ((h_3 15 2) + (1 : Int32)))) (fun h_4 : Mm => some h_4))))
set_option maxRecDepth 100000 in
set_option maxHeartbeats 4000000 in
theorem ctX3_remember (K : Kx) (h : Mm) (c1 : Nat) (hc1 : isPst c1) {a : Mm} (hF : fX3_remember h c1 = some a) : Mt K yX3_remember cX3_remember 2 none 1 22 SHc [rf K 15, rf K c1] h none a := by
  refine Mt.of hF [(0, rf K 15), (1, rf K c1)] (by decide) (Nat.le_of_ble_eq_true rfl) rfl (fun Y C N => ?_)
  have C : Cx K Y (0, 0) cX3_remember RX3 2 1 22 := C
  unfold fX3_remember
  refine mj_aload_n C 0 dX3_remember_0 (i := 0) rfl rfl ?_
  refine mj_getR C ff_X3_11 dX3_remember_1 sh_15 rfl ?_
  refine mj_aload_n C 0 dX3_remember_4 (i := 0) rfl rfl ?_
  refine mj_getI C ff_X3_18 dX3_remember_5 sh_15 rfl ?_
  refine mj_aald C dX3_remember_8 sh_16 (fun hp_1 => ?_)
  refine mj_aload_n C 1 dX3_remember_9 (i := 1) rfl rfl ?_
  refine mj_vM C my_X4_become mv_X3_22 dX3_remember_10 (ps_o (ps_ring hp_1)) rfl (fun a hF => ctX4_become K h (17 + 2 * ((h 15 1)).toNatClampNeg) c1 (ps_ring hp_1) hc1 hF) (by decide) (by decide) rfl rfl (Nat.le_of_ble_eq_true rfl) (fun h_2 => ?_)
  refine mj_aload_n C 0 dX3_remember_13 (i := 0) rfl rfl ?_
  refine mj_aload_n C 0 dX3_remember_14 (i := 0) rfl rfl ?_
  refine mj_getI C ff_X3_18 dX3_remember_15 sh_15 rfl ?_
  refine mj_iconst C (v := 1) dX3_remember_18 rfl ?_
  refine mj_iadd C dX3_remember_19 ?_
  refine mj_bipush C (v := 20) dX3_remember_20 rfl ?_
  refine mj_irem C dX3_remember_22 (by decide) ?_
  refine mj_putL C fp_X3_18 dX3_remember_23 sh_15 rfl rfl rfl (fun h_3 => ?_)
  refine mj_aload_n C 0 dX3_remember_26 (i := 0) rfl rfl ?_
  refine mj_aload_n C 0 dX3_remember_27 (i := 0) rfl rfl ?_
  refine mj_getI C ff_X3_26 dX3_remember_28 sh_15 rfl ?_
  refine mj_iconst C (v := 1) dX3_remember_31 rfl ?_
  refine mj_iadd C dX3_remember_32 ?_
  refine mj_bipush C (v := 20) dX3_remember_33 rfl ?_
  refine mj_mmin C ml_X3_29 mm_min.1 mm_min.2.1 mm_min.2.2 (by decide) (Nat.le_of_ble_eq_true rfl) dX3_remember_35 ?_
  refine mj_putL C fp_X3_26 dX3_remember_38 sh_15 rfl rfl rfl (fun h_4 => ?_)
  exact mj_rV C N dX3_remember_41
noncomputable def fX3_bringBack (h : Mm) (c1 : Nat) : Option (Mm) := md_bd ((if (h 15 2) ≤ 0 then some h else md_lt (md_up h 15 1 ((((h 15 1) + (20 : Int32)) - (1 : Int32)) - (((h 15 1) + (20 : Int32)) - (1 : Int32)) / (20 : Int32) * (20 : Int32))) (fun h_3 : Mm => md_ck (md_in (h_3 15 1) 20) (md_bd (fX4_become h_3 c1 (17 + 2 * ((h_3 15 1)).toNatClampNeg)) (fun h_5 => md_lt (md_up h_5 15 2 ((h_5 15 2) - (1 : Int32))) (fun h_6 : Mm => some h_6)))))) (fun (h_1 : Mm) => some h_1)
set_option maxRecDepth 100000 in
set_option maxHeartbeats 4000000 in
theorem ctX3_bringBack (K : Kx) (h : Mm) (c1 : Nat) (hc1 : isPst c1) {a : Mm} (hF : fX3_bringBack h c1 = some a) : Mt K yX3_bringBack cX3_bringBack 2 none 1 22 SHc [rf K 15, rf K c1] h none a := by
  refine Mt.of hF [(0, rf K 15), (1, rf K c1)] (by decide) (Nat.le_of_ble_eq_true rfl) rfl (fun Y C N => ?_)
  have C : Cx K Y (0, 0) cX3_bringBack RX3 2 1 22 := C
  unfold fX3_bringBack
  refine mj_aload_n C 0 dX3_bringBack_0 (i := 0) rfl rfl ?_
  refine mj_getI C ff_X3_26 dX3_bringBack_1 sh_15 rfl ?_
  refine mj_phi1 46 (fun (h_1 : Mm) => []) (fun (h_1 : Mm) => []) (fun (h_1 : Mm) => h_1) (fun P' kj_2 => ?_) (fun h_1 => ?_)
  · refine mj_if_le C 46 dX3_bringBack_4 (by decide) ?_ ?_
    · exact mj_sub [] rfl (mj_some (kj_2 h))
    · refine mj_aload_n C 0 dX3_bringBack_7 (i := 0) rfl rfl ?_
      refine mj_aload_n C 0 dX3_bringBack_8 (i := 0) rfl rfl ?_
      refine mj_getI C ff_X3_18 dX3_bringBack_9 sh_15 rfl ?_
      refine mj_bipush C (v := 20) dX3_bringBack_12 rfl ?_
      refine mj_iadd C dX3_bringBack_14 ?_
      refine mj_iconst C (v := 1) dX3_bringBack_15 rfl ?_
      refine mj_isub C dX3_bringBack_16 ?_
      refine mj_bipush C (v := 20) dX3_bringBack_17 rfl ?_
      refine mj_irem C dX3_bringBack_19 (by decide) ?_
      refine mj_putL C fp_X3_18 dX3_bringBack_20 sh_15 rfl rfl rfl (fun h_3 => ?_)
      refine mj_aload_n C 1 dX3_bringBack_23 (i := 1) rfl rfl ?_
      refine mj_aload_n C 0 dX3_bringBack_24 (i := 0) rfl rfl ?_
      refine mj_getR C ff_X3_11 dX3_bringBack_25 sh_15 rfl ?_
      refine mj_aload_n C 0 dX3_bringBack_28 (i := 0) rfl rfl ?_
      refine mj_getI C ff_X3_18 dX3_bringBack_29 sh_15 rfl ?_
      refine mj_aald C dX3_bringBack_32 sh_16 (fun hp_4 => ?_)
      refine mj_vM C my_X4_become mv_X3_22 dX3_bringBack_33 (ps_o hc1) rfl (fun a hF => ctX4_become K h_3 c1 (17 + 2 * ((h_3 15 1)).toNatClampNeg) hc1 (ps_ring hp_4) hF) (by decide) (by decide) rfl rfl (Nat.le_of_ble_eq_true rfl) (fun h_5 => ?_)
      refine mj_aload_n C 0 dX3_bringBack_36 (i := 0) rfl rfl ?_
      refine mj_dup C dX3_bringBack_37 rfl ?_
      refine mj_getI C ff_X3_26 dX3_bringBack_38 sh_15 rfl ?_
      refine mj_iconst C (v := 1) dX3_bringBack_41 rfl ?_
      refine mj_isub C dX3_bringBack_42 ?_
      refine mj_putL C fp_X3_26 dX3_bringBack_43 sh_15 rfl rfl rfl (fun h_6 => ?_)
      exact mj_sub [] rfl (mj_some (kj_2 h_6))
  · exact mj_rV C N dX3_bringBack_46
noncomputable def fX4_begin_2 : Nat → Mm → Nat → Nat → Int32 → Option (Mm)
  | 0, _, _, _, _ => none
  | n + 1, h, c, c1, l2 => (if (5 : Int32) ≤ l2 then some h else md_bd (fX1_isTraveller h c1 l2) (fun r_1 => md_bd ((if r_1 = true then md_ck (md_in l2 5) (some (h (c1 + 8) (l2).toNatClampNeg)) else some (0 : Int32))) (fun (v_2 : Int32) => md_ck (md_in l2 5) (md_lt (md_up h (c + 1) (l2).toNatClampNeg v_2) (fun h_4 : Mm => fX4_begin_2 n h_4 c c1 (l2 + 1))))))
set_option maxRecDepth 100000 in
set_option maxHeartbeats 4000000 in
theorem lX4_begin_2 {K : Kx} {Y : Yx} {cs : Nat × Nat} (c : Nat) (c1 : Nat) (hc : isPst c) (hc1 : isCnt c1) (C : Cx K Y cs cX4_begin RX4 3 1 21) {P : Mm → Prop} : ∀ (n : Nat) (h : Mm) (l2 : Int32), (∀ (hw : Mm), J SHc K Y cs (P hw) 37 [(0, rf K c), (1, rf K c1)] [] hw) → J SHc K Y cs (mj_O (fX4_begin_2 n h c c1 l2) P) 2 [(0, rf K c), (1, rf K c1), (2, .int l2)] [] h := by
  intro n
  induction n with
  | zero => intro h l2 kk0; exact mj_none
  | succ n ih =>
    intro h l2 kk0
    rw [fX4_begin_2]
    refine mj_iload_n C 2 dX4_begin_2 (i := 2) rfl rfl ?_
    refine mj_iconst C (v := 5) dX4_begin_3 rfl ?_
    refine mj_icmp_ge C 37 dX4_begin_4 (by decide) ?_ ?_
    · exact mj_sub [0, 1] rfl (mj_some (kk0 h))
    · refine mj_aload_n C 0 dX4_begin_7 (i := 0) rfl rfl ?_
      refine mj_getR C ff_X4_9 dX4_begin_8 (ps_o hc) rfl ?_
      refine mj_iload_n C 2 dX4_begin_11 (i := 2) rfl rfl ?_
      refine mj_aload_n C 1 dX4_begin_12 (i := 1) rfl rfl ?_
      refine mj_iload_n C 2 dX4_begin_13 (i := 2) rfl rfl ?_
      refine mj_vB C my_X1_isTraveller mv_X4_15 dX4_begin_14 (cn_o hc1) rfl (fun a hF => ctX1_isTraveller K h c1 l2 hc1 hF) (by decide) (by decide) rfl rfl (Nat.le_of_ble_eq_true rfl) (fun r_1 => ?_)
      refine mj_phi1 30 (fun (v_2 : Int32) => [(0, rf K c), (1, rf K c1), (2, .int l2)]) (fun (v_2 : Int32) => [.int v_2, .int l2, rf K (c + 1)]) (fun (v_2 : Int32) => h) (fun P' kj_3 => ?_) (fun v_2 => ?_)
      · refine mj_b_eq C 29 dX4_begin_17 (by decide) ?_ ?_
        · refine mj_iconst C (v := 0) dX4_begin_29 rfl ?_
          exact mj_sub [0, 1, 2] rfl (mj_some (kj_3 (0 : Int32)))
        · refine mj_aload_n C 1 dX4_begin_20 (i := 1) rfl rfl ?_
          refine mj_getR C ff_X4_21 dX4_begin_21 (cn_o hc1) rfl ?_
          refine mj_iload_n C 2 dX4_begin_24 (i := 2) rfl rfl ?_
          refine mj_iald C dX4_begin_25 (cn_15 hc1) ?_
          refine mj_goto C 30 dX4_begin_26 (by decide) ?_
          exact mj_sub [0, 1, 2] rfl (mj_some (kj_3 (h (c1 + 8) (l2).toNatClampNeg)))
      · refine mj_iast C dX4_begin_30 (ps_0 hc) (fun h_4 => ?_)
        refine mj_iinc C (l2 + 1) 2 [(2, .int (l2 + 1)), (0, rf K c), (1, rf K c1)] dX4_begin_31 rfl rfl (by decide) rfl ?_
        refine mj_goto C 2 dX4_begin_34 (by decide) ?_
        exact mj_sub [1, 2, 0] rfl (ih h_4 (l2 + 1) kk0)
noncomputable def fX4_begin (h : Mm) (c : Nat) (c1 : Nat) : Option (Mm) := md_bd (fX4_begin_2 md_N h c c1 (0 : Int32)) (fun (h_5 : Mm) => md_lt (md_up h_5 c 1 (h_5 c1 13)) (fun h_6 : Mm => md_lt (md_up h_6 c 2 (0 : Int32)) (fun h_7 : Mm => md_lt (md_up h_7 c 3 (0 : Int32)) (fun h_8 : Mm => md_lt (md_up h_8 c 4 (0 : Int32)) (fun h_9 : Mm => some h_9)))))
set_option maxRecDepth 100000 in
set_option maxHeartbeats 4000000 in
theorem ctX4_begin (K : Kx) (h : Mm) (c : Nat) (c1 : Nat) (hc : isPst c) (hc1 : isCnt c1) {a : Mm} (hF : fX4_begin h c c1 = some a) : Mt K yX4_begin cX4_begin 3 none 1 21 SHc [rf K c, rf K c1] h none a := by
  refine Mt.of hF [(0, rf K c), (1, rf K c1)] (by decide) (Nat.le_of_ble_eq_true rfl) rfl (fun Y C N => ?_)
  have C : Cx K Y (0, 0) cX4_begin RX4 3 1 21 := C
  unfold fX4_begin
  refine mj_iconst C (v := 0) dX4_begin_0 rfl ?_
  refine mj_istore_n C [(2, .int (0 : Int32)), (0, rf K c), (1, rf K c1)] dX4_begin_1 (i := 2) rfl (by decide) rfl ?_
  refine mj_phi1 37 (fun (h_5 : Mm) => [(0, rf K c), (1, rf K c1)]) (fun (h_5 : Mm) => []) (fun (h_5 : Mm) => h_5) (fun P' kj_10 => mj_sub [1, 2, 0] rfl (lX4_begin_2 c c1 hc hc1 C md_N h (0 : Int32) kj_10)) (fun h_5 => ?_)
  refine mj_aload_n C 0 dX4_begin_37 (i := 0) rfl rfl ?_
  refine mj_aload_n C 1 dX4_begin_38 (i := 1) rfl rfl ?_
  refine mj_getI C ff_X4_22 dX4_begin_39 (cn_o hc1) rfl ?_
  refine mj_putL C fp_X4_26 dX4_begin_42 (ps_o hc) rfl rfl rfl (fun h_6 => ?_)
  refine mj_aload_n C 0 dX4_begin_45 (i := 0) rfl rfl ?_
  refine mj_iconst C (v := 0) dX4_begin_46 rfl ?_
  refine mj_putL C fp_X4_27 dX4_begin_47 (ps_o hc) rfl rfl rfl (fun h_7 => ?_)
  refine mj_aload_n C 0 dX4_begin_50 (i := 0) rfl rfl ?_
  refine mj_iconst C (v := 0) dX4_begin_51 rfl ?_
  refine mj_putL C fp_X4_30 dX4_begin_52 (ps_o hc) rfl rfl rfl (fun h_8 => ?_)
  refine mj_aload_n C 0 dX4_begin_55 (i := 0) rfl rfl ?_
  refine mj_iconst C (v := 0) dX4_begin_56 rfl ?_
  refine mj_putL C fp_X4_33 dX4_begin_57 (ps_o hc) rfl rfl rfl (fun h_9 => ?_)
  exact mj_rV C N dX4_begin_60
noncomputable def fX4_mindOf (h : Mm) (c : Nat) (l1 : Int32) : Option (Int32) := md_bd ((if l1 < 0 then some (0 : Int32) else (if (5 : Int32) ≤ l1 then some (0 : Int32) else md_ck (md_in l1 5) (some (h (c + 1) (l1).toNatClampNeg))))) (fun (v_1 : Int32) => some v_1)
set_option maxRecDepth 100000 in
set_option maxHeartbeats 4000000 in
theorem ctX4_mindOf (K : Kx) (h : Mm) (c : Nat) (l1 : Int32) (hc : isPst c) {a : Int32} (hF : fX4_mindOf h c l1 = some a) : Mt K yX4_mindOf cX4_mindOf 2 (some .int) 0 0 SHc [rf K c, .int l1] h (some (.int a)) h := by
  refine Mt.of hF [(0, rf K c), (1, .int l1)] (by decide) (Nat.le_of_ble_eq_true rfl) rfl (fun Y C N => ?_)
  have C : Cx K Y (0, 0) cX4_mindOf RX4 2 0 0 := C
  unfold fX4_mindOf
  refine mj_iload_n C 1 dX4_mindOf_0 (i := 1) rfl rfl ?_
  refine mj_phi1 19 (fun (v_1 : Int32) => []) (fun (v_1 : Int32) => [.int v_1]) (fun (v_1 : Int32) => h) (fun P' kj_2 => ?_) (fun v_1 => ?_)
  · refine mj_if_lt C 18 dX4_mindOf_1 (by decide) ?_ ?_
    · refine mj_iconst C (v := 0) dX4_mindOf_18 rfl ?_
      exact mj_sub [] rfl (mj_some (kj_2 (0 : Int32)))
    · refine mj_iload_n C 1 dX4_mindOf_4 (i := 1) rfl rfl ?_
      refine mj_iconst C (v := 5) dX4_mindOf_5 rfl ?_
      refine mj_icmp_ge C 18 dX4_mindOf_6 (by decide) ?_ ?_
      · refine mj_iconst C (v := 0) dX4_mindOf_18 rfl ?_
        exact mj_sub [] rfl (mj_some (kj_2 (0 : Int32)))
      · refine mj_aload_n C 0 dX4_mindOf_9 (i := 0) rfl rfl ?_
        refine mj_getR C ff_X4_9 dX4_mindOf_10 (ps_o hc) rfl ?_
        refine mj_iload_n C 1 dX4_mindOf_13 (i := 1) rfl rfl ?_
        refine mj_iald C dX4_mindOf_14 (ps_0 hc) ?_
        refine mj_goto C 19 dX4_mindOf_15 (by decide) ?_
        exact mj_sub [] rfl (mj_some (kj_2 (h (c + 1) (l1).toNatClampNeg)))
  · exact mj_rI C N dX4_mindOf_19
noncomputable def fX4_setMind (h : Mm) (c : Nat) (l1 : Int32) (l2 : Int32) : Option (Mm) := md_bd ((if l1 < 0 then some h else (if (5 : Int32) ≤ l1 then some h else md_ck (md_in l1 5) (md_lt (md_up h (c + 1) (l1).toNatClampNeg l2) (fun h_3 : Mm => some h_3))))) (fun (h_1 : Mm) => some h_1)
set_option maxRecDepth 100000 in
set_option maxHeartbeats 4000000 in
theorem ctX4_setMind (K : Kx) (h : Mm) (c : Nat) (l1 : Int32) (l2 : Int32) (hc : isPst c) {a : Mm} (hF : fX4_setMind h c l1 l2 = some a) : Mt K yX4_setMind cX4_setMind 3 none 0 0 SHc [rf K c, .int l1, .int l2] h none a := by
  refine Mt.of hF [(0, rf K c), (1, .int l1), (2, .int l2)] (by decide) (Nat.le_of_ble_eq_true rfl) rfl (fun Y C N => ?_)
  have C : Cx K Y (0, 0) cX4_setMind RX4 3 0 0 := C
  unfold fX4_setMind
  refine mj_iload_n C 1 dX4_setMind_0 (i := 1) rfl rfl ?_
  refine mj_phi1 16 (fun (h_1 : Mm) => []) (fun (h_1 : Mm) => []) (fun (h_1 : Mm) => h_1) (fun P' kj_2 => ?_) (fun h_1 => ?_)
  · refine mj_if_lt C 16 dX4_setMind_1 (by decide) ?_ ?_
    · exact mj_sub [] rfl (mj_some (kj_2 h))
    · refine mj_iload_n C 1 dX4_setMind_4 (i := 1) rfl rfl ?_
      refine mj_iconst C (v := 5) dX4_setMind_5 rfl ?_
      refine mj_icmp_ge C 16 dX4_setMind_6 (by decide) ?_ ?_
      · exact mj_sub [] rfl (mj_some (kj_2 h))
      · refine mj_aload_n C 0 dX4_setMind_9 (i := 0) rfl rfl ?_
        refine mj_getR C ff_X4_9 dX4_setMind_10 (ps_o hc) rfl ?_
        refine mj_iload_n C 1 dX4_setMind_13 (i := 1) rfl rfl ?_
        refine mj_iload_n C 2 dX4_setMind_14 (i := 2) rfl rfl ?_
        refine mj_iast C dX4_setMind_15 (ps_0 hc) (fun h_3 => ?_)
        exact mj_sub [] rfl (mj_some (kj_2 h_3))
  · exact mj_rV C N dX4_setMind_16
noncomputable def fX4_isGone (h : Mm) (c : Nat) (l1 : Int32) : Option (Bool) := md_bd ((if ((h c 2) &&& ((1 : Int32) <<< (l1 &&& 31))) = 0 then some false else some true)) (fun (v_1 : Bool) => some v_1)
set_option maxRecDepth 100000 in
set_option maxHeartbeats 4000000 in
theorem ctX4_isGone (K : Kx) (h : Mm) (c : Nat) (l1 : Int32) (hc : isPst c) {a : Bool} (hF : fX4_isGone h c l1 = some a) : Mt K yX4_isGone cX4_isGone 2 (some .boolean) 0 0 SHc [rf K c, .int l1] h (some (.int (md_bi a))) h := by
  refine Mt.of hF [(0, rf K c), (1, .int l1)] (by decide) (Nat.le_of_ble_eq_true rfl) rfl (fun Y C N => ?_)
  have C : Cx K Y (0, 0) cX4_isGone RX4 2 0 0 := C
  unfold fX4_isGone
  refine mj_aload_n C 0 dX4_isGone_0 (i := 0) rfl rfl ?_
  refine mj_getI C ff_X4_27 dX4_isGone_1 (ps_o hc) rfl ?_
  refine mj_iconst C (v := 1) dX4_isGone_4 rfl ?_
  refine mj_iload_n C 1 dX4_isGone_5 (i := 1) rfl rfl ?_
  refine mj_ishl C dX4_isGone_6 ?_
  refine mj_iand C dX4_isGone_7 ?_
  refine mj_phi1 16 (fun (v_1 : Bool) => []) (fun (v_1 : Bool) => [.int (md_bi v_1)]) (fun (v_1 : Bool) => h) (fun P' kj_2 => ?_) (fun v_1 => ?_)
  · refine mj_if_eq C 15 dX4_isGone_8 (by decide) ?_ ?_
    · refine mj_iconst C (v := 0) dX4_isGone_15 rfl ?_
      exact mj_sub [] rfl (mj_some (kj_2 false))
    · refine mj_iconst C (v := 1) dX4_isGone_11 rfl ?_
      refine mj_goto C 16 dX4_isGone_12 (by decide) ?_
      exact mj_sub [] rfl (mj_some (kj_2 true))
  · exact mj_rZ C N dX4_isGone_16
noncomputable def fX4_comes (h : Mm) (c : Nat) (l1 : Int32) (l2 : Int32) : Option (Mm) := md_bd (fX4_setMind h c l1 l2) (fun h_1 => md_lt (md_up h_1 c 2 ((h_1 c 2) &&& (((1 : Int32) <<< (l1 &&& 31)) ^^^ (-1 : Int32)))) (fun h_2 : Mm => some h_2))
set_option maxRecDepth 100000 in
set_option maxHeartbeats 4000000 in
theorem ctX4_comes (K : Kx) (h : Mm) (c : Nat) (l1 : Int32) (l2 : Int32) (hc : isPst c) {a : Mm} (hF : fX4_comes h c l1 l2 = some a) : Mt K yX4_comes cX4_comes 3 none 1 22 SHc [rf K c, .int l1, .int l2] h none a := by
  refine Mt.of hF [(0, rf K c), (1, .int l1), (2, .int l2)] (by decide) (Nat.le_of_ble_eq_true rfl) rfl (fun Y C N => ?_)
  have C : Cx K Y (0, 0) cX4_comes RX4 3 1 22 := C
  unfold fX4_comes
  refine mj_aload_n C 0 dX4_comes_0 (i := 0) rfl rfl ?_
  refine mj_iload_n C 1 dX4_comes_1 (i := 1) rfl rfl ?_
  refine mj_iload_n C 2 dX4_comes_2 (i := 2) rfl rfl ?_
  refine mj_vM C my_X4_setMind mv_X4_36 dX4_comes_3 (ps_o hc) rfl (fun a hF => ctX4_setMind K h c l1 l2 hc hF) (by decide) (by decide) rfl rfl (Nat.le_of_ble_eq_true rfl) (fun h_1 => ?_)
  refine mj_aload_n C 0 dX4_comes_6 (i := 0) rfl rfl ?_
  refine mj_dup C dX4_comes_7 rfl ?_
  refine mj_getI C ff_X4_27 dX4_comes_8 (ps_o hc) rfl ?_
  refine mj_iconst C (v := 1) dX4_comes_11 rfl ?_
  refine mj_iload_n C 1 dX4_comes_12 (i := 1) rfl rfl ?_
  refine mj_ishl C dX4_comes_13 ?_
  refine mj_iconst C (v := -1) dX4_comes_14 rfl ?_
  refine mj_ixor C dX4_comes_15 ?_
  refine mj_iand C dX4_comes_16 ?_
  refine mj_putL C fp_X4_27 dX4_comes_17 (ps_o hc) rfl rfl rfl (fun h_2 => ?_)
  exact mj_rV C N dX4_comes_20
noncomputable def fX4_leaves (h : Mm) (c : Nat) (l1 : Int32) (l2 : Bool) : Option (Mm) := md_bd ((if l2 = true then md_bd (fX4_mindOf h c l1) (fun r_3 => md_lt (md_up h c 1 ((h c 1) ||| r_3)) (fun h_4 : Mm => some h_4)) else some h)) (fun (h_1 : Mm) => md_lt (md_up h_1 c 2 ((h_1 c 2) ||| ((1 : Int32) <<< (l1 &&& 31)))) (fun h_5 : Mm => some h_5))
set_option maxRecDepth 100000 in
set_option maxHeartbeats 4000000 in
theorem ctX4_leaves (K : Kx) (h : Mm) (c : Nat) (l1 : Int32) (l2 : Bool) (hc : isPst c) {a : Mm} (hF : fX4_leaves h c l1 l2 = some a) : Mt K yX4_leaves cX4_leaves 3 none 1 21 SHc [rf K c, .int l1, .int (md_bi l2)] h none a := by
  refine Mt.of hF [(0, rf K c), (1, .int l1), (2, .int (md_bi l2))] (by decide) (Nat.le_of_ble_eq_true rfl) rfl (fun Y C N => ?_)
  have C : Cx K Y (0, 0) cX4_leaves RX4 3 1 21 := C
  unfold fX4_leaves
  refine mj_iload_n C 2 dX4_leaves_0 (i := 2) rfl rfl ?_
  refine mj_phi1 18 (fun (h_1 : Mm) => [(0, rf K c), (1, .int l1)]) (fun (h_1 : Mm) => []) (fun (h_1 : Mm) => h_1) (fun P' kj_2 => ?_) (fun h_1 => ?_)
  · refine mj_b_eq C 18 dX4_leaves_1 (by decide) ?_ ?_
    · exact mj_sub [0, 1] rfl (mj_some (kj_2 h))
    · refine mj_aload_n C 0 dX4_leaves_4 (i := 0) rfl rfl ?_
      refine mj_dup C dX4_leaves_5 rfl ?_
      refine mj_getI C ff_X4_26 dX4_leaves_6 (ps_o hc) rfl ?_
      refine mj_aload_n C 0 dX4_leaves_9 (i := 0) rfl rfl ?_
      refine mj_iload_n C 1 dX4_leaves_10 (i := 1) rfl rfl ?_
      refine mj_vI C my_X4_mindOf mv_X4_40 dX4_leaves_11 (ps_o hc) rfl (fun a hF => ctX4_mindOf K h c l1 hc hF) (by decide) (by decide) rfl rfl (Nat.le_of_ble_eq_true rfl) (fun r_3 => ?_)
      refine mj_ior C dX4_leaves_14 ?_
      refine mj_putL C fp_X4_26 dX4_leaves_15 (ps_o hc) rfl rfl rfl (fun h_4 => ?_)
      exact mj_sub [0, 1] rfl (mj_some (kj_2 h_4))
  · refine mj_aload_n C 0 dX4_leaves_18 (i := 0) rfl rfl ?_
    refine mj_dup C dX4_leaves_19 rfl ?_
    refine mj_getI C ff_X4_27 dX4_leaves_20 (ps_o hc) rfl ?_
    refine mj_iconst C (v := 1) dX4_leaves_23 rfl ?_
    refine mj_iload_n C 1 dX4_leaves_24 (i := 1) rfl rfl ?_
    refine mj_ishl C dX4_leaves_25 ?_
    refine mj_ior C dX4_leaves_26 ?_
    refine mj_putL C fp_X4_27 dX4_leaves_27 (ps_o hc) rfl rfl rfl (fun h_5 => ?_)
    exact mj_rV C N dX4_leaves_30
noncomputable def fJ6_bitCount_0f7a4 (h : Mm) (l0 : Int32) : Option (Int32) := md_lt (l0 - (((l0.toUInt32 >>> ((1 : Int32).toUInt32 &&& Int32.toUInt32 31)).toInt32) &&& (1431655765 : Int32))) (fun l0_1 : Int32 => md_lt ((l0_1 &&& (858993459 : Int32)) + (((l0_1.toUInt32 >>> ((2 : Int32).toUInt32 &&& Int32.toUInt32 31)).toInt32) &&& (858993459 : Int32))) (fun l0_2 : Int32 => md_lt ((l0_2 + ((l0_2.toUInt32 >>> ((4 : Int32).toUInt32 &&& Int32.toUInt32 31)).toInt32)) &&& (252645135 : Int32)) (fun l0_3 : Int32 => md_lt (l0_3 + ((l0_3.toUInt32 >>> ((8 : Int32).toUInt32 &&& Int32.toUInt32 31)).toInt32)) (fun l0_4 : Int32 => md_lt (l0_4 + ((l0_4.toUInt32 >>> ((16 : Int32).toUInt32 &&& Int32.toUInt32 31)).toInt32)) (fun l0_5 : Int32 => some (l0_5 &&& (63 : Int32)))))))
set_option maxRecDepth 100000 in
set_option maxHeartbeats 4000000 in
theorem ctJ6_bitCount_0f7a4 (K : Kx) (h : Mm) (l0 : Int32) {a : Int32} (hF : fJ6_bitCount_0f7a4 h l0 = some a) : Mt K yJ6_bitCount_0f7a4 cJ6_bitCount_0f7a4 1 (some .int) 0 0 SHc [.int l0] h (some (.int a)) h := by
  refine Mt.of hF [(0, .int l0)] (by decide) (Nat.le_of_ble_eq_true rfl) rfl (fun Y C N => ?_)
  have C : Cx K Y (0, 0) cJ6_bitCount_0f7a4 RJ6 1 0 0 := C
  unfold fJ6_bitCount_0f7a4
  refine mj_iload_n C 0 dJ6_bitCount_0f7a4_0 (i := 0) rfl rfl ?_
  refine mj_iload_n C 0 dJ6_bitCount_0f7a4_1 (i := 0) rfl rfl ?_
  refine mj_iconst C (v := 1) dJ6_bitCount_0f7a4_2 rfl ?_
  refine mj_iushr C dJ6_bitCount_0f7a4_3 ?_
  refine mj_ldcw C kc_J6_265 dJ6_bitCount_0f7a4_4 ?_
  refine mj_iand C dJ6_bitCount_0f7a4_7 ?_
  refine mj_isub C dJ6_bitCount_0f7a4_8 ?_
  refine mj_istore_nL C (fun l0_1 => [(0, .int l0_1)]) dJ6_bitCount_0f7a4_9 (i := 0) rfl (by decide) rfl (fun l0_1 => ?_)
  refine mj_iload_n C 0 dJ6_bitCount_0f7a4_10 (i := 0) rfl rfl ?_
  refine mj_ldcw C kc_J6_266 dJ6_bitCount_0f7a4_11 ?_
  refine mj_iand C dJ6_bitCount_0f7a4_14 ?_
  refine mj_iload_n C 0 dJ6_bitCount_0f7a4_15 (i := 0) rfl rfl ?_
  refine mj_iconst C (v := 2) dJ6_bitCount_0f7a4_16 rfl ?_
  refine mj_iushr C dJ6_bitCount_0f7a4_17 ?_
  refine mj_ldcw C kc_J6_266 dJ6_bitCount_0f7a4_18 ?_
  refine mj_iand C dJ6_bitCount_0f7a4_21 ?_
  refine mj_iadd C dJ6_bitCount_0f7a4_22 ?_
  refine mj_istore_nL C (fun l0_2 => [(0, .int l0_2)]) dJ6_bitCount_0f7a4_23 (i := 0) rfl (by decide) rfl (fun l0_2 => ?_)
  refine mj_iload_n C 0 dJ6_bitCount_0f7a4_24 (i := 0) rfl rfl ?_
  refine mj_iload_n C 0 dJ6_bitCount_0f7a4_25 (i := 0) rfl rfl ?_
  refine mj_iconst C (v := 4) dJ6_bitCount_0f7a4_26 rfl ?_
  refine mj_iushr C dJ6_bitCount_0f7a4_27 ?_
  refine mj_iadd C dJ6_bitCount_0f7a4_28 ?_
  refine mj_ldcw C kc_J6_267 dJ6_bitCount_0f7a4_29 ?_
  refine mj_iand C dJ6_bitCount_0f7a4_32 ?_
  refine mj_istore_nL C (fun l0_3 => [(0, .int l0_3)]) dJ6_bitCount_0f7a4_33 (i := 0) rfl (by decide) rfl (fun l0_3 => ?_)
  refine mj_iload_n C 0 dJ6_bitCount_0f7a4_34 (i := 0) rfl rfl ?_
  refine mj_iload_n C 0 dJ6_bitCount_0f7a4_35 (i := 0) rfl rfl ?_
  refine mj_bipush C (v := 8) dJ6_bitCount_0f7a4_36 rfl ?_
  refine mj_iushr C dJ6_bitCount_0f7a4_38 ?_
  refine mj_iadd C dJ6_bitCount_0f7a4_39 ?_
  refine mj_istore_nL C (fun l0_4 => [(0, .int l0_4)]) dJ6_bitCount_0f7a4_40 (i := 0) rfl (by decide) rfl (fun l0_4 => ?_)
  refine mj_iload_n C 0 dJ6_bitCount_0f7a4_41 (i := 0) rfl rfl ?_
  refine mj_iload_n C 0 dJ6_bitCount_0f7a4_42 (i := 0) rfl rfl ?_
  refine mj_bipush C (v := 16) dJ6_bitCount_0f7a4_43 rfl ?_
  refine mj_iushr C dJ6_bitCount_0f7a4_45 ?_
  refine mj_iadd C dJ6_bitCount_0f7a4_46 ?_
  refine mj_istore_nL C (fun l0_5 => [(0, .int l0_5)]) dJ6_bitCount_0f7a4_47 (i := 0) rfl (by decide) rfl (fun l0_5 => ?_)
  refine mj_iload_n C 0 dJ6_bitCount_0f7a4_48 (i := 0) rfl rfl ?_
  refine mj_bipush C (v := 63) dJ6_bitCount_0f7a4_49 rfl ?_
  refine mj_iand C dJ6_bitCount_0f7a4_51 ?_
  exact mj_rI C N dJ6_bitCount_0f7a4_52
end
section
noncomputable def fX5_append (h : Mm) (l1 : Int32) (l2 : Int32) (l3 : Bool) : Option (Bool × Mm) := (if (h 65 4) < (6 : Int32) then md_ck (md_in (h 65 4) 6) (md_lt (md_up h 66 ((h 65 4)).toNatClampNeg l1) (fun h_1 : Mm => md_ck (md_in (h_1 65 4) 6) (md_lt (md_up h_1 67 ((h_1 65 4)).toNatClampNeg l2) (fun h_2 : Mm => md_ck (md_in (h_2 65 4) 6) (md_lt (md_up h_2 68 ((h_2 65 4)).toNatClampNeg (md_bi l3)) (fun h_3 : Mm => md_lt (md_up h_3 65 4 ((h_3 65 4) + (1 : Int32))) (fun h_4 : Mm => some (true, h_4)))))))) else some (false, h))
set_option maxRecDepth 100000 in
set_option maxHeartbeats 4000000 in
theorem ctX5_append (K : Kx) (h : Mm) (l1 : Int32) (l2 : Int32) (l3 : Bool) {a : Bool × Mm} (hF : fX5_append h l1 l2 l3 = some a) : Mt K yX5_append cX5_append 4 (some .boolean) 0 0 SHc [rf K 65, .int l1, .int l2, .int (md_bi l3)] h (some (.int (md_bi a.1))) a.2 := by
  refine Mt.of hF [(0, rf K 65), (1, .int l1), (2, .int l2), (3, .int (md_bi l3))] (by decide) (Nat.le_of_ble_eq_true rfl) rfl (fun Y C N => ?_)
  have C : Cx K Y (0, 0) cX5_append RX5 4 0 0 := C
  unfold fX5_append
  refine mj_aload_n C 0 dX5_append_0 (i := 0) rfl rfl ?_
  refine mj_getI C ff_X5_25 dX5_append_1 sh_65 rfl ?_
  refine mj_bipush C (v := 6) dX5_append_4 rfl ?_
  refine mj_icmp_lt C 11 dX5_append_6 (by decide) ?_ ?_
  · refine mj_aload_n C 0 dX5_append_11 (i := 0) rfl rfl ?_
    refine mj_getR C ff_X5_9 dX5_append_12 sh_65 rfl ?_
    refine mj_aload_n C 0 dX5_append_15 (i := 0) rfl rfl ?_
    refine mj_getI C ff_X5_25 dX5_append_16 sh_65 rfl ?_
    refine mj_iload_n C 1 dX5_append_19 (i := 1) rfl rfl ?_
    refine mj_iast C dX5_append_20 sh_66 (fun h_1 => ?_)
    refine mj_aload_n C 0 dX5_append_21 (i := 0) rfl rfl ?_
    refine mj_getR C ff_X5_15 dX5_append_22 sh_65 rfl ?_
    refine mj_aload_n C 0 dX5_append_25 (i := 0) rfl rfl ?_
    refine mj_getI C ff_X5_25 dX5_append_26 sh_65 rfl ?_
    refine mj_iload_n C 2 dX5_append_29 (i := 2) rfl rfl ?_
    refine mj_iast C dX5_append_30 sh_67 (fun h_2 => ?_)
    refine mj_aload_n C 0 dX5_append_31 (i := 0) rfl rfl ?_
    refine mj_getR C ff_X5_18 dX5_append_32 sh_65 rfl ?_
    refine mj_aload_n C 0 dX5_append_35 (i := 0) rfl rfl ?_
    refine mj_getI C ff_X5_25 dX5_append_36 sh_65 rfl ?_
    refine mj_iload_n C 3 dX5_append_39 (i := 3) rfl rfl ?_
    refine mj_zast C (v := l3) dX5_append_40 sh_68 (fun h_3 => ?_)
    refine mj_aload_n C 0 dX5_append_41 (i := 0) rfl rfl ?_
    refine mj_dup C dX5_append_42 rfl ?_
    refine mj_getI C ff_X5_25 dX5_append_43 sh_65 rfl ?_
    refine mj_iconst C (v := 1) dX5_append_46 rfl ?_
    refine mj_iadd C dX5_append_47 ?_
    refine mj_putL C fp_X5_25 dX5_append_48 sh_65 rfl rfl rfl (fun h_4 => ?_)
    refine mj_iconst C (v := 1) dX5_append_51 rfl ?_
    exact mj_rZM C N dX5_append_52
  · refine mj_iconst C (v := 0) dX5_append_9 rfl ?_
    exact mj_rZM C N dX5_append_10
noncomputable def fX5_isSo (h : Mm) (l0 : Int32) (l1 : Int32) (l2 : Int32) : Option (Bool) := (if l2 = 0 then md_bd ((if l0 = 0 then some false else some true)) (fun (v_1 : Bool) => some v_1) else if l2 = 1 then md_bd ((if l0 = l1 then some true else some false)) (fun (v_3 : Bool) => some v_3) else md_bd (fJ6_bitCount_0f7a4 h l0) (fun r_5 => md_bd ((if r_5 = (l2 - (2 : Int32)) then some true else some false)) (fun (v_6 : Bool) => some v_6)))
set_option maxRecDepth 100000 in
set_option maxHeartbeats 4000000 in
theorem ctX5_isSo (K : Kx) (h : Mm) (l0 : Int32) (l1 : Int32) (l2 : Int32) {a : Bool} (hF : fX5_isSo h l0 l1 l2 = some a) : Mt K yX5_isSo cX5_isSo 3 (some .boolean) 1 20 SHc [.int l0, .int l1, .int l2] h (some (.int (md_bi a))) h := by
  refine Mt.of hF [(0, .int l0), (1, .int l1), (2, .int l2)] (by decide) (Nat.le_of_ble_eq_true rfl) rfl (fun Y C N => ?_)
  have C : Cx K Y (0, 0) cX5_isSo RX5 3 1 20 := C
  unfold fX5_isSo
  refine mj_iload_n C 2 dX5_isSo_0 (i := 2) rfl rfl ?_
  refine mj_sw0 ?_
  refine mj_lcase C 0 28 dX5_isSo_1 rfl rfl (by decide) ?_ ?_
  · refine mj_iload_n C 0 dX5_isSo_28 (i := 0) rfl rfl ?_
    refine mj_phi1 37 (fun (v_1 : Bool) => []) (fun (v_1 : Bool) => [.int (md_bi v_1)]) (fun (v_1 : Bool) => h) (fun P' kj_2 => ?_) (fun v_1 => ?_)
    · refine mj_if_eq C 36 dX5_isSo_29 (by decide) ?_ ?_
      · refine mj_iconst C (v := 0) dX5_isSo_36 rfl ?_
        exact mj_sub [] rfl (mj_some (kj_2 false))
      · refine mj_iconst C (v := 1) dX5_isSo_32 rfl ?_
        refine mj_goto C 37 dX5_isSo_33 (by decide) ?_
        exact mj_sub [] rfl (mj_some (kj_2 true))
    · exact mj_rZ C N dX5_isSo_37
  refine mj_lcase C 1 38 dX5_isSo_1 rfl rfl (by decide) ?_ ?_
  · refine mj_iload_n C 0 dX5_isSo_38 (i := 0) rfl rfl ?_
    refine mj_iload_n C 1 dX5_isSo_39 (i := 1) rfl rfl ?_
    refine mj_phi1 48 (fun (v_3 : Bool) => []) (fun (v_3 : Bool) => [.int (md_bi v_3)]) (fun (v_3 : Bool) => h) (fun P' kj_4 => ?_) (fun v_3 => ?_)
    · refine mj_icmp_ne C 47 dX5_isSo_40 (by decide) ?_ ?_
      · refine mj_iconst C (v := 0) dX5_isSo_47 rfl ?_
        exact mj_sub [] rfl (mj_some (kj_4 false))
      · refine mj_iconst C (v := 1) dX5_isSo_43 rfl ?_
        refine mj_goto C 48 dX5_isSo_44 (by decide) ?_
        exact mj_sub [] rfl (mj_some (kj_4 true))
    · exact mj_rZ C N dX5_isSo_48
  refine mj_ldflt C 49 dX5_isSo_1 rfl (fun hq => lw_cov2 hq) (by decide) ?_
  refine mj_iload_n C 0 dX5_isSo_49 (i := 0) rfl rfl ?_
  refine mj_sI C my_J6_bitCount_0f7a4 ms_X5_50 dX5_isSo_50 (fun a hF => ctJ6_bitCount_0f7a4 K h l0  hF) (by decide) (by decide) rfl rfl (Nat.le_of_ble_eq_true rfl) (fun r_5 => ?_)
  refine mj_iload_n C 2 dX5_isSo_53 (i := 2) rfl rfl ?_
  refine mj_iconst C (v := 2) dX5_isSo_54 rfl ?_
  refine mj_isub C dX5_isSo_55 ?_
  refine mj_phi1 64 (fun (v_6 : Bool) => []) (fun (v_6 : Bool) => [.int (md_bi v_6)]) (fun (v_6 : Bool) => h) (fun P' kj_7 => ?_) (fun v_6 => ?_)
  · refine mj_icmp_ne C 63 dX5_isSo_56 (by decide) ?_ ?_
    · refine mj_iconst C (v := 0) dX5_isSo_63 rfl ?_
      exact mj_sub [] rfl (mj_some (kj_7 false))
    · refine mj_iconst C (v := 1) dX5_isSo_59 rfl ?_
      refine mj_goto C 64 dX5_isSo_60 (by decide) ?_
      exact mj_sub [] rfl (mj_some (kj_7 true))
  · exact mj_rZ C N dX5_isSo_64
noncomputable def fX5_fits_2 : Nat → Mm → Int32 → Int32 → Option ((Unit) ⊕ (Unit))
  | 0, _, _, _ => none
  | n + 1, h, l1, l2 => (if (h 65 4) ≤ l2 then some (.inr ()) else md_ck (md_in l2 6) (md_ck (md_in l2 6) (md_ck (md_in l2 6) (md_bd (fX5_isSo h (l1 &&& (h 66 (l2).toNatClampNeg)) (h 66 (l2).toNatClampNeg) (h 67 (l2).toNatClampNeg)) (fun r_1 => md_ck (md_in l2 6) ((if (md_bi r_1) = (h 68 (l2).toNatClampNeg) then fX5_fits_2 n h l1 (l2 + 1) else some (.inl ()))))))))
set_option maxRecDepth 100000 in
set_option maxHeartbeats 4000000 in
theorem lX5_fits_2 {K : Kx} {Y : Yx} {cs : Nat × Nat} (C : Cx K Y cs cX5_fits RX5 3 2 42) {P : (Unit) ⊕ (Unit) → Prop} : ∀ (n : Nat) (h : Mm) (l1 : Int32) (l2 : Int32), (∀ (q : Unit), J SHc K Y cs (P (.inl q)) 42 [] [] h) → (∀ (q : Unit), J SHc K Y cs (P (.inr q)) 50 [] [] h) → J SHc K Y cs (mj_O (fX5_fits_2 n h l1 l2) P) 2 [(0, rf K 65), (1, .int l1), (2, .int l2)] [] h := by
  intro n
  induction n with
  | zero => intro h l1 l2 kk0 kk1; exact mj_none
  | succ n ih =>
    intro h l1 l2 kk0 kk1
    rw [fX5_fits_2]
    refine mj_iload_n C 2 dX5_fits_2 (i := 2) rfl rfl ?_
    refine mj_aload_n C 0 dX5_fits_3 (i := 0) rfl rfl ?_
    refine mj_getI C ff_X5_25 dX5_fits_4 sh_65 rfl ?_
    refine mj_icmp_ge C 50 dX5_fits_7 (by decide) ?_ ?_
    · exact mj_sub [] rfl (mj_some (kk1 ()))
    · refine mj_iload_n C 1 dX5_fits_10 (i := 1) rfl rfl ?_
      refine mj_aload_n C 0 dX5_fits_11 (i := 0) rfl rfl ?_
      refine mj_getR C ff_X5_9 dX5_fits_12 sh_65 rfl ?_
      refine mj_iload_n C 2 dX5_fits_15 (i := 2) rfl rfl ?_
      refine mj_iald C dX5_fits_16 sh_66 ?_
      refine mj_iand C dX5_fits_17 ?_
      refine mj_aload_n C 0 dX5_fits_18 (i := 0) rfl rfl ?_
      refine mj_getR C ff_X5_9 dX5_fits_19 sh_65 rfl ?_
      refine mj_iload_n C 2 dX5_fits_22 (i := 2) rfl rfl ?_
      refine mj_iald C dX5_fits_23 sh_66 ?_
      refine mj_aload_n C 0 dX5_fits_24 (i := 0) rfl rfl ?_
      refine mj_getR C ff_X5_15 dX5_fits_25 sh_65 rfl ?_
      refine mj_iload_n C 2 dX5_fits_28 (i := 2) rfl rfl ?_
      refine mj_iald C dX5_fits_29 sh_67 ?_
      refine mj_sB C my_X5_isSo ms_X5_46 dX5_fits_30 (fun a hF => ctX5_isSo K h (l1 &&& (h 66 (l2).toNatClampNeg)) (h 66 (l2).toNatClampNeg) (h 67 (l2).toNatClampNeg)  hF) (by decide) (by decide) rfl rfl (Nat.le_of_ble_eq_true rfl) (fun r_1 => ?_)
      refine mj_aload_n C 0 dX5_fits_33 (i := 0) rfl rfl ?_
      refine mj_getR C ff_X5_18 dX5_fits_34 sh_65 rfl ?_
      refine mj_iload_n C 2 dX5_fits_37 (i := 2) rfl rfl ?_
      refine mj_zald C dX5_fits_38 sh_68 ?_
      refine mj_icmp_eq C 44 dX5_fits_39 (by decide) ?_ ?_
      · refine mj_iinc C (l2 + 1) 2 [(2, .int (l2 + 1)), (0, rf K 65), (1, .int l1)] dX5_fits_44 rfl rfl (by decide) rfl ?_
        refine mj_goto C 2 dX5_fits_47 (by decide) ?_
        exact mj_sub [1, 2, 0] rfl (ih h l1 (l2 + 1) kk0 kk1)
      · exact mj_sub [] rfl (mj_some (kk0 ()))
noncomputable def fX5_fits (h : Mm) (l1 : Int32) : Option (Bool) := md_bS (fX5_fits_2 md_N h l1 (0 : Int32)) (fun q_2 : Unit => some false) (fun q_3 : Unit => some true)
set_option maxRecDepth 100000 in
set_option maxHeartbeats 4000000 in
theorem ctX5_fits (K : Kx) (h : Mm) (l1 : Int32) {a : Bool} (hF : fX5_fits h l1 = some a) : Mt K yX5_fits cX5_fits 3 (some .boolean) 2 42 SHc [rf K 65, .int l1] h (some (.int (md_bi a))) h := by
  refine Mt.of hF [(0, rf K 65), (1, .int l1)] (by decide) (Nat.le_of_ble_eq_true rfl) rfl (fun Y C N => ?_)
  have C : Cx K Y (0, 0) cX5_fits RX5 3 2 42 := C
  unfold fX5_fits
  refine mj_iconst C (v := 0) dX5_fits_0 rfl ?_
  refine mj_istore_n C [(2, .int (0 : Int32)), (0, rf K 65), (1, .int l1)] dX5_fits_1 (i := 2) rfl (by decide) rfl ?_
  refine mj_phiS 42 50 (fun q_2 => []) (fun q_3 => []) (fun q_2 => h) (fun q_3 => h) (fun P' kj_4 kj_5 => mj_sub [1, 2, 0] rfl (lX5_fits_2 C md_N h l1 (0 : Int32) kj_4 kj_5)) (fun q_2 => ?_) (fun q_3 => ?_)
  · refine mj_iconst C (v := 0) dX5_fits_42 rfl ?_
    exact mj_rZ C N dX5_fits_43
  · refine mj_iconst C (v := 1) dX5_fits_50 rfl ?_
    exact mj_rZ C N dX5_fits_51
noncomputable def fX5_countIdeas_2 : Nat → Mm → Int32 → Int32 → Option (Mm)
  | 0, _, _, _ => none
  | n + 1, h, l1, l2 => (if (8 : Int32) ≤ l2 then some h else md_ck (md_in l2 8) (md_ck (md_in l2 8) (md_lt (md_up h 69 (l2).toNatClampNeg ((h 69 (l2).toNatClampNeg) + ((l1 >>> (l2 &&& 31)) &&& (1 : Int32)))) (fun h_1 : Mm => fX5_countIdeas_2 n h_1 l1 (l2 + 1)))))
set_option maxRecDepth 100000 in
set_option maxHeartbeats 4000000 in
theorem lX5_countIdeas_2 {K : Kx} {Y : Yx} {cs : Nat × Nat} (C : Cx K Y cs cX5_countIdeas RX5 3 0 0) {P : Mm → Prop} : ∀ (n : Nat) (h : Mm) (l1 : Int32) (l2 : Int32), (∀ (hw : Mm), J SHc K Y cs (P hw) 28 [] [] hw) → J SHc K Y cs (mj_O (fX5_countIdeas_2 n h l1 l2) P) 2 [(0, rf K 65), (1, .int l1), (2, .int l2)] [] h := by
  intro n
  induction n with
  | zero => intro h l1 l2 kk0; exact mj_none
  | succ n ih =>
    intro h l1 l2 kk0
    rw [fX5_countIdeas_2]
    refine mj_iload_n C 2 dX5_countIdeas_2 (i := 2) rfl rfl ?_
    refine mj_bipush C (v := 8) dX5_countIdeas_3 rfl ?_
    refine mj_icmp_ge C 28 dX5_countIdeas_5 (by decide) ?_ ?_
    · exact mj_sub [] rfl (mj_some (kk0 h))
    · refine mj_aload_n C 0 dX5_countIdeas_8 (i := 0) rfl rfl ?_
      refine mj_getR C ff_X5_22 dX5_countIdeas_9 sh_65 rfl ?_
      refine mj_iload_n C 2 dX5_countIdeas_12 (i := 2) rfl rfl ?_
      refine mj_dup2 C dX5_countIdeas_13 rfl rfl ?_
      refine mj_iald C dX5_countIdeas_14 sh_69 ?_
      refine mj_iload_n C 1 dX5_countIdeas_15 (i := 1) rfl rfl ?_
      refine mj_iload_n C 2 dX5_countIdeas_16 (i := 2) rfl rfl ?_
      refine mj_ishr C dX5_countIdeas_17 ?_
      refine mj_iconst C (v := 1) dX5_countIdeas_18 rfl ?_
      refine mj_iand C dX5_countIdeas_19 ?_
      refine mj_iadd C dX5_countIdeas_20 ?_
      refine mj_iast C dX5_countIdeas_21 sh_69 (fun h_1 => ?_)
      refine mj_iinc C (l2 + 1) 2 [(2, .int (l2 + 1)), (0, rf K 65), (1, .int l1)] dX5_countIdeas_22 rfl rfl (by decide) rfl ?_
      refine mj_goto C 2 dX5_countIdeas_25 (by decide) ?_
      exact mj_sub [1, 2, 0] rfl (ih h_1 l1 (l2 + 1) kk0)
noncomputable def fX5_countIdeas (h : Mm) (l1 : Int32) : Option (Mm) := md_bd (fX5_countIdeas_2 md_N h l1 (0 : Int32)) (fun (h_2 : Mm) => some h_2)
set_option maxRecDepth 100000 in
set_option maxHeartbeats 4000000 in
theorem ctX5_countIdeas (K : Kx) (h : Mm) (l1 : Int32) {a : Mm} (hF : fX5_countIdeas h l1 = some a) : Mt K yX5_countIdeas cX5_countIdeas 3 none 0 0 SHc [rf K 65, .int l1] h none a := by
  refine Mt.of hF [(0, rf K 65), (1, .int l1)] (by decide) (Nat.le_of_ble_eq_true rfl) rfl (fun Y C N => ?_)
  have C : Cx K Y (0, 0) cX5_countIdeas RX5 3 0 0 := C
  unfold fX5_countIdeas
  refine mj_iconst C (v := 0) dX5_countIdeas_0 rfl ?_
  refine mj_istore_n C [(2, .int (0 : Int32)), (0, rf K 65), (1, .int l1)] dX5_countIdeas_1 (i := 2) rfl (by decide) rfl ?_
  refine mj_phi1 28 (fun (h_2 : Mm) => []) (fun (h_2 : Mm) => []) (fun (h_2 : Mm) => h_2) (fun P' kj_3 => mj_sub [1, 2, 0] rfl (lX5_countIdeas_2 C md_N h l1 (0 : Int32) kj_3)) (fun h_2 => ?_)
  exact mj_rV C N dX5_countIdeas_28
noncomputable def fX5_look_17 : Nat → Mm → Int32 → Int32 → Option (Mm)
  | 0, _, _, _ => none
  | n + 1, h, l1, l2 => (if (8 : Int32) ≤ l2 then some h else md_ck (md_in l2 8) (md_lt (md_up h 69 (l2).toNatClampNeg (0 : Int32)) (fun h_4 : Mm => fX5_look_17 n h_4 l1 (l2 + 1))))
set_option maxRecDepth 100000 in
set_option maxHeartbeats 4000000 in
theorem lX5_look_17 {K : Kx} {Y : Yx} {cs : Nat × Nat} (C : Cx K Y cs cX5_look RX5 4 3 64) {P : Mm → Prop} : ∀ (n : Nat) (h : Mm) (l1 : Int32) (l2 : Int32), (∀ (hw : Mm), J SHc K Y cs (P hw) 36 [(0, rf K 65), (1, .int l1)] [] hw) → J SHc K Y cs (mj_O (fX5_look_17 n h l1 l2) P) 17 [(0, rf K 65), (1, .int l1), (2, .int l2)] [] h := by
  intro n
  induction n with
  | zero => intro h l1 l2 kk0; exact mj_none
  | succ n ih =>
    intro h l1 l2 kk0
    rw [fX5_look_17]
    refine mj_iload_n C 2 dX5_look_17 (i := 2) rfl rfl ?_
    refine mj_bipush C (v := 8) dX5_look_18 rfl ?_
    refine mj_icmp_ge C 36 dX5_look_20 (by decide) ?_ ?_
    · exact mj_sub [0, 1] rfl (mj_some (kk0 h))
    · refine mj_aload_n C 0 dX5_look_23 (i := 0) rfl rfl ?_
      refine mj_getR C ff_X5_22 dX5_look_24 sh_65 rfl ?_
      refine mj_iload_n C 2 dX5_look_27 (i := 2) rfl rfl ?_
      refine mj_iconst C (v := 0) dX5_look_28 rfl ?_
      refine mj_iast C dX5_look_29 sh_69 (fun h_4 => ?_)
      refine mj_iinc C (l2 + 1) 2 [(2, .int (l2 + 1)), (0, rf K 65), (1, .int l1)] dX5_look_30 rfl rfl (by decide) rfl ?_
      refine mj_goto C 17 dX5_look_33 (by decide) ?_
      exact mj_sub [1, 2, 0] rfl (ih h_4 l1 (l2 + 1) kk0)
noncomputable def fX5_look_42 : Nat → Mm → Int32 → Int32 → Option (Mm)
  | 0, _, _, _ => none
  | n + 1, h, l2, l3 => (if l2 ≤ l3 then some h else md_bd (fX5_fits h l3) (fun r_7 => md_bd ((if r_7 = true then md_bd ((if (h 65 5) = 0 then some l3 else some (h 65 6))) (fun (v_10 : Int32) => md_lt (md_up h 65 6 v_10) (fun h_12 : Mm => md_bd ((if (h_12 65 5) = 0 then some l3 else some ((h_12 65 7) &&& l3))) (fun (v_13 : Int32) => md_lt (md_up h_12 65 7 v_13) (fun h_15 : Mm => md_lt (md_up h_15 65 5 ((h_15 65 5) + (1 : Int32))) (fun h_16 : Mm => md_bd (fX5_countIdeas h_16 l3) (fun h_17 => some h_17)))))) else some h)) (fun (h_8 : Mm) => fX5_look_42 n h_8 l2 (l3 + 1))))
set_option maxRecDepth 100000 in
set_option maxHeartbeats 4000000 in
theorem lX5_look_42 {K : Kx} {Y : Yx} {cs : Nat × Nat} (C : Cx K Y cs cX5_look RX5 4 3 64) {P : Mm → Prop} : ∀ (n : Nat) (h : Mm) (l2 : Int32) (l3 : Int32), (∀ (hw : Mm), J SHc K Y cs (P hw) 116 [] [] hw) → J SHc K Y cs (mj_O (fX5_look_42 n h l2 l3) P) 42 [(0, rf K 65), (2, .int l2), (3, .int l3)] [] h := by
  intro n
  induction n with
  | zero => intro h l2 l3 kk0; exact mj_none
  | succ n ih =>
    intro h l2 l3 kk0
    rw [fX5_look_42]
    refine mj_iload_n C 2 dX5_look_42 (i := 3) rfl rfl ?_
    refine mj_iload_n C 1 dX5_look_43 (i := 2) rfl rfl ?_
    refine mj_icmp_ge C 116 dX5_look_44 (by decide) ?_ ?_
    · exact mj_sub [] rfl (mj_some (kk0 h))
    · refine mj_aload_n C 0 dX5_look_47 (i := 0) rfl rfl ?_
      refine mj_iload_n C 2 dX5_look_48 (i := 3) rfl rfl ?_
      refine mj_vB C my_X5_fits mv_X5_38 dX5_look_49 sh_65 rfl (fun a hF => ctX5_fits K h l3  hF) (by decide) (by decide) rfl rfl (Nat.le_of_ble_eq_true rfl) (fun r_7 => ?_)
      refine mj_phi1 110 (fun (h_8 : Mm) => [(0, rf K 65), (2, .int l2), (3, .int l3)]) (fun (h_8 : Mm) => []) (fun (h_8 : Mm) => h_8) (fun P' kj_9 => ?_) (fun h_8 => ?_)
      · refine mj_b_eq C 110 dX5_look_52 (by decide) ?_ ?_
        · exact mj_sub [0, 1, 2] rfl (mj_some (kj_9 h))
        · refine mj_aload_n C 0 dX5_look_55 (i := 0) rfl rfl ?_
          refine mj_aload_n C 0 dX5_look_56 (i := 0) rfl rfl ?_
          refine mj_getI C ff_X5_29 dX5_look_57 sh_65 rfl ?_
          refine mj_phi1 71 (fun (v_10 : Int32) => [(0, rf K 65), (2, .int l2), (3, .int l3)]) (fun (v_10 : Int32) => [.int v_10, rf K 65]) (fun (v_10 : Int32) => h) (fun P' kj_11 => ?_) (fun v_10 => ?_)
          · refine mj_if_ne C 67 dX5_look_60 (by decide) ?_ ?_
            · refine mj_aload_n C 0 dX5_look_67 (i := 0) rfl rfl ?_
              refine mj_getI C ff_X5_32 dX5_look_68 sh_65 rfl ?_
              exact mj_sub [0, 1, 2] rfl (mj_some (kj_11 (h 65 6)))
            · refine mj_iload_n C 2 dX5_look_63 (i := 3) rfl rfl ?_
              refine mj_goto C 71 dX5_look_64 (by decide) ?_
              exact mj_sub [0, 1, 2] rfl (mj_some (kj_11 l3))
          · refine mj_putL C fp_X5_32 dX5_look_71 sh_65 rfl rfl rfl (fun h_12 => ?_)
            refine mj_aload_n C 0 dX5_look_74 (i := 0) rfl rfl ?_
            refine mj_aload_n C 0 dX5_look_75 (i := 0) rfl rfl ?_
            refine mj_getI C ff_X5_29 dX5_look_76 sh_65 rfl ?_
            refine mj_phi1 92 (fun (v_13 : Int32) => [(0, rf K 65), (2, .int l2), (3, .int l3)]) (fun (v_13 : Int32) => [.int v_13, rf K 65]) (fun (v_13 : Int32) => h_12) (fun P' kj_14 => ?_) (fun v_13 => ?_)
            · refine mj_if_ne C 86 dX5_look_79 (by decide) ?_ ?_
              · refine mj_aload_n C 0 dX5_look_86 (i := 0) rfl rfl ?_
                refine mj_getI C ff_X5_35 dX5_look_87 sh_65 rfl ?_
                refine mj_iload_n C 2 dX5_look_90 (i := 3) rfl rfl ?_
                refine mj_iand C dX5_look_91 ?_
                exact mj_sub [0, 1, 2] rfl (mj_some (kj_14 ((h_12 65 7) &&& l3)))
              · refine mj_iload_n C 2 dX5_look_82 (i := 3) rfl rfl ?_
                refine mj_goto C 92 dX5_look_83 (by decide) ?_
                exact mj_sub [0, 1, 2] rfl (mj_some (kj_14 l3))
            · refine mj_putL C fp_X5_35 dX5_look_92 sh_65 rfl rfl rfl (fun h_15 => ?_)
              refine mj_aload_n C 0 dX5_look_95 (i := 0) rfl rfl ?_
              refine mj_dup C dX5_look_96 rfl ?_
              refine mj_getI C ff_X5_29 dX5_look_97 sh_65 rfl ?_
              refine mj_iconst C (v := 1) dX5_look_100 rfl ?_
              refine mj_iadd C dX5_look_101 ?_
              refine mj_putL C fp_X5_29 dX5_look_102 sh_65 rfl rfl rfl (fun h_16 => ?_)
              refine mj_aload_n C 0 dX5_look_105 (i := 0) rfl rfl ?_
              refine mj_iload_n C 2 dX5_look_106 (i := 3) rfl rfl ?_
              refine mj_vM C my_X5_countIdeas mv_X5_42 dX5_look_107 sh_65 rfl (fun a hF => ctX5_countIdeas K h_16 l3  hF) (by decide) (by decide) rfl rfl (Nat.le_of_ble_eq_true rfl) (fun h_17 => ?_)
              exact mj_sub [0, 1, 2] rfl (mj_some (kj_9 h_17))
      · refine mj_iinc C (l3 + 1) 2 [(3, .int (l3 + 1)), (0, rf K 65), (2, .int l2)] dX5_look_110 rfl rfl (by decide) rfl ?_
        refine mj_goto C 42 dX5_look_113 (by decide) ?_
        exact mj_sub [1, 2, 0] rfl (ih h_8 l2 (l3 + 1) kk0)
noncomputable def fX5_look (h : Mm) (l1 : Int32) : Option (Mm) := md_lt (md_up h 65 5 (0 : Int32)) (fun h_1 : Mm => md_lt (md_up h_1 65 6 (-1 : Int32)) (fun h_2 : Mm => md_lt (md_up h_2 65 7 (0 : Int32)) (fun h_3 : Mm => md_bd (fX5_look_17 md_N h_3 l1 (0 : Int32)) (fun (h_5 : Mm) => md_lt ((1 : Int32) <<< (l1 &&& 31)) (fun l2_6 : Int32 => md_bd (fX5_look_42 md_N h_5 l2_6 (0 : Int32)) (fun (h_18 : Mm) => some h_18))))))
set_option maxRecDepth 100000 in
set_option maxHeartbeats 4000000 in
theorem ctX5_look (K : Kx) (h : Mm) (l1 : Int32) {a : Mm} (hF : fX5_look h l1 = some a) : Mt K yX5_look cX5_look 4 none 3 64 SHc [rf K 65, .int l1] h none a := by
  refine Mt.of hF [(0, rf K 65), (1, .int l1)] (by decide) (Nat.le_of_ble_eq_true rfl) rfl (fun Y C N => ?_)
  have C : Cx K Y (0, 0) cX5_look RX5 4 3 64 := C
  unfold fX5_look
  refine mj_aload_n C 0 dX5_look_0 (i := 0) rfl rfl ?_
  refine mj_iconst C (v := 0) dX5_look_1 rfl ?_
  refine mj_putL C fp_X5_29 dX5_look_2 sh_65 rfl rfl rfl (fun h_1 => ?_)
  refine mj_aload_n C 0 dX5_look_5 (i := 0) rfl rfl ?_
  refine mj_iconst C (v := -1) dX5_look_6 rfl ?_
  refine mj_putL C fp_X5_32 dX5_look_7 sh_65 rfl rfl rfl (fun h_2 => ?_)
  refine mj_aload_n C 0 dX5_look_10 (i := 0) rfl rfl ?_
  refine mj_iconst C (v := 0) dX5_look_11 rfl ?_
  refine mj_putL C fp_X5_35 dX5_look_12 sh_65 rfl rfl rfl (fun h_3 => ?_)
  refine mj_iconst C (v := 0) dX5_look_15 rfl ?_
  refine mj_istore_n C [(2, .int (0 : Int32)), (0, rf K 65), (1, .int l1)] dX5_look_16 (i := 2) rfl (by decide) rfl ?_
  refine mj_phi1 36 (fun (h_5 : Mm) => [(0, rf K 65), (1, .int l1)]) (fun (h_5 : Mm) => []) (fun (h_5 : Mm) => h_5) (fun P' kj_20 => mj_sub [1, 2, 0] rfl (lX5_look_17 C md_N h_3 l1 (0 : Int32) kj_20)) (fun h_5 => ?_)
  refine mj_iconst C (v := 1) dX5_look_36 rfl ?_
  refine mj_iload_n C 1 dX5_look_37 (i := 1) rfl rfl ?_
  refine mj_ishl C dX5_look_38 ?_
  refine mj_istore_nL C (fun l2_6 => [(2, .int l2_6), (0, rf K 65), (1, .int l1)]) dX5_look_39 (i := 2) rfl (by decide) rfl (fun l2_6 => ?_)
  refine mj_iconst C (v := 0) dX5_look_40 rfl ?_
  refine mj_istore_n C [(3, .int (0 : Int32)), (2, .int l2_6), (0, rf K 65), (1, .int l1)] dX5_look_41 (i := 3) rfl (by decide) rfl ?_
  refine mj_phi1 116 (fun (h_18 : Mm) => []) (fun (h_18 : Mm) => []) (fun (h_18 : Mm) => h_18) (fun P' kj_19 => mj_sub [2, 1, 0] rfl (lX5_look_42 C md_N h_5 l2_6 (0 : Int32) kj_19)) (fun h_18 => ?_)
  exact mj_rV C N dX5_look_116
noncomputable def fX5_bestIdea_9 : Nat → Mm → Int32 → Int32 → Int32 → Option (Int32)
  | 0, _, _, _, _ => none
  | n + 1, h, l1, l2, l3 => (if (8 : Int32) ≤ l3 then some l1 else md_ck (md_in l3 8) (md_ck (md_in l3 8) (md_lt (if (h 69 (l3).toNatClampNeg) < ((h 65 5) - (h 69 (l3).toNatClampNeg)) then ((h 65 5) - (h 69 (l3).toNatClampNeg)) else (h 69 (l3).toNatClampNeg)) (fun l4_2 : Int32 => md_b2 ((if l2 ≤ l4_2 then some (l1, l2) else some (l3, l4_2))) (fun (v_3 : Int32) (v_4 : Int32) => fX5_bestIdea_9 n h v_3 v_4 (l3 + 1))))))
set_option maxRecDepth 100000 in
set_option maxHeartbeats 4000000 in
theorem lX5_bestIdea_9 {K : Kx} {Y : Yx} {cs : Nat × Nat} (C : Cx K Y cs cX5_bestIdea RX5 5 1 21) {P : Int32 → Prop} : ∀ (n : Nat) (h : Mm) (l1 : Int32) (l2 : Int32) (l3 : Int32), (∀ (w1 : Int32), J SHc K Y cs (P w1) 54 [(1, .int w1)] [] h) → J SHc K Y cs (mj_O (fX5_bestIdea_9 n h l1 l2 l3) P) 9 [(0, rf K 65), (1, .int l1), (2, .int l2), (3, .int l3)] [] h := by
  intro n
  induction n with
  | zero => intro h l1 l2 l3 kk0; exact mj_none
  | succ n ih =>
    intro h l1 l2 l3 kk0
    rw [fX5_bestIdea_9]
    refine mj_iload_n C 3 dX5_bestIdea_9 (i := 3) rfl rfl ?_
    refine mj_bipush C (v := 8) dX5_bestIdea_10 rfl ?_
    refine mj_icmp_ge C 54 dX5_bestIdea_12 (by decide) ?_ ?_
    · exact mj_sub [1] rfl (mj_some (kk0 l1))
    · refine mj_aload_n C 0 dX5_bestIdea_15 (i := 0) rfl rfl ?_
      refine mj_getR C ff_X5_22 dX5_bestIdea_16 sh_65 rfl ?_
      refine mj_iload_n C 3 dX5_bestIdea_19 (i := 3) rfl rfl ?_
      refine mj_iald C dX5_bestIdea_20 sh_69 ?_
      refine mj_aload_n C 0 dX5_bestIdea_21 (i := 0) rfl rfl ?_
      refine mj_getI C ff_X5_29 dX5_bestIdea_22 sh_65 rfl ?_
      refine mj_aload_n C 0 dX5_bestIdea_25 (i := 0) rfl rfl ?_
      refine mj_getR C ff_X5_22 dX5_bestIdea_26 sh_65 rfl ?_
      refine mj_iload_n C 3 dX5_bestIdea_29 (i := 3) rfl rfl ?_
      refine mj_iald C dX5_bestIdea_30 sh_69 ?_
      refine mj_isub C dX5_bestIdea_31 ?_
      refine mj_mmax C ml_X5_56 mm_max.1 mm_max.2.1 mm_max.2.2 (by decide) (Nat.le_of_ble_eq_true rfl) dX5_bestIdea_32 ?_
      refine mj_istoreL C (fun l4_2 => [(4, .int l4_2), (0, rf K 65), (1, .int l1), (2, .int l2), (3, .int l3)]) dX5_bestIdea_35 (by decide) rfl (fun l4_2 => ?_)
      refine mj_iload C 0 dX5_bestIdea_37 rfl ?_
      refine mj_iload_n C 3 dX5_bestIdea_39 (i := 2) rfl rfl ?_
      refine mj_phi2 48 (fun (v_3 : Int32) (v_4 : Int32) => [(0, rf K 65), (1, .int v_3), (2, .int v_4), (3, .int l3)]) (fun (v_3 : Int32) (v_4 : Int32) => []) (fun (v_3 : Int32) (v_4 : Int32) => h) (fun P' kj_5 => ?_) (fun v_3 v_4 => ?_)
      · refine mj_icmp_ge C 48 dX5_bestIdea_40 (by decide) ?_ ?_
        · exact mj_sub [1, 2, 3, 4] rfl (mj_some (kj_5 l1 l2))
        · refine mj_iload_n C 4 dX5_bestIdea_43 (i := 3) rfl rfl ?_
          refine mj_istore_n C [(1, .int l3), (4, .int l4_2), (0, rf K 65), (2, .int l2), (3, .int l3)] dX5_bestIdea_44 (i := 1) rfl (by decide) rfl ?_
          refine mj_iload C 1 dX5_bestIdea_45 rfl ?_
          refine mj_istore_n C [(2, .int l4_2), (1, .int l3), (4, .int l4_2), (0, rf K 65), (3, .int l3)] dX5_bestIdea_47 (i := 2) rfl (by decide) rfl ?_
          exact mj_sub [3, 1, 0, 4] rfl (mj_some (kj_5 l3 l4_2))
      · refine mj_iinc C (l3 + 1) 3 [(3, .int (l3 + 1)), (0, rf K 65), (1, .int v_3), (2, .int v_4)] dX5_bestIdea_48 rfl rfl (by decide) rfl ?_
        refine mj_goto C 9 dX5_bestIdea_51 (by decide) ?_
        exact mj_sub [1, 2, 3, 0] rfl (ih h v_3 v_4 (l3 + 1) kk0)
noncomputable def fX5_bestIdea (h : Mm) : Option (Int32) := md_lt (h 65 5) (fun l2_1 : Int32 => md_bd (fX5_bestIdea_9 md_N h (-1 : Int32) l2_1 (0 : Int32)) (fun (v_6 : Int32) => some v_6))
set_option maxRecDepth 100000 in
set_option maxHeartbeats 4000000 in
theorem ctX5_bestIdea (K : Kx) (h : Mm) {a : Int32} (hF : fX5_bestIdea h = some a) : Mt K yX5_bestIdea cX5_bestIdea 5 (some .int) 1 21 SHc [rf K 65] h (some (.int a)) h := by
  refine Mt.of hF [(0, rf K 65)] (by decide) (Nat.le_of_ble_eq_true rfl) rfl (fun Y C N => ?_)
  have C : Cx K Y (0, 0) cX5_bestIdea RX5 5 1 21 := C
  unfold fX5_bestIdea
  refine mj_iconst C (v := -1) dX5_bestIdea_0 rfl ?_
  refine mj_istore_n C [(1, .int (-1 : Int32)), (0, rf K 65)] dX5_bestIdea_1 (i := 1) rfl (by decide) rfl ?_
  refine mj_aload_n C 1 dX5_bestIdea_2 (i := 0) rfl rfl ?_
  refine mj_getI C ff_X5_29 dX5_bestIdea_3 sh_65 rfl ?_
  refine mj_istore_nL C (fun l2_1 => [(2, .int l2_1), (1, .int (-1 : Int32)), (0, rf K 65)]) dX5_bestIdea_6 (i := 2) rfl (by decide) rfl (fun l2_1 => ?_)
  refine mj_iconst C (v := 0) dX5_bestIdea_7 rfl ?_
  refine mj_istore_n C [(3, .int (0 : Int32)), (2, .int l2_1), (1, .int (-1 : Int32)), (0, rf K 65)] dX5_bestIdea_8 (i := 3) rfl (by decide) rfl ?_
  refine mj_phi1 54 (fun (v_6 : Int32) => [(1, .int v_6)]) (fun (v_6 : Int32) => []) (fun (v_6 : Int32) => h) (fun P' kj_7 => mj_sub [3, 2, 1, 0] rfl (lX5_bestIdea_9 C md_N h (-1 : Int32) l2_1 (0 : Int32) kj_7)) (fun v_6 => ?_)
  refine mj_iload_n C 0 dX5_bestIdea_54 (i := 1) rfl rfl ?_
  exact mj_rI C N dX5_bestIdea_55
noncomputable def fX6_append (h : Mm) (l1 : Int32) : Option (Bool × Mm) := (if (h 1 1) < (240 : Int32) then md_ck (md_in (h 1 1) 240) (md_lt (md_up h 2 ((h 1 1)).toNatClampNeg l1) (fun h_1 : Mm => md_lt (md_up h_1 1 1 ((h_1 1 1) + (1 : Int32))) (fun h_2 : Mm => some (true, h_2)))) else some (false, h))
set_option maxRecDepth 100000 in
set_option maxHeartbeats 4000000 in
theorem ctX6_append (K : Kx) (h : Mm) (l1 : Int32) {a : Bool × Mm} (hF : fX6_append h l1 = some a) : Mt K yX6_append cX6_append 2 (some .boolean) 0 0 SHc [rf K 1, .int l1] h (some (.int (md_bi a.1))) a.2 := by
  refine Mt.of hF [(0, rf K 1), (1, .int l1)] (by decide) (Nat.le_of_ble_eq_true rfl) rfl (fun Y C N => ?_)
  have C : Cx K Y (0, 0) cX6_append RX6 2 0 0 := C
  unfold fX6_append
  refine mj_aload_n C 0 dX6_append_0 (i := 0) rfl rfl ?_
  refine mj_getI C ff_X6_26 dX6_append_1 sh_1 rfl ?_
  refine mj_sipush C (v := 240) dX6_append_4 rfl ?_
  refine mj_icmp_lt C 12 dX6_append_7 (by decide) ?_ ?_
  · refine mj_aload_n C 0 dX6_append_12 (i := 0) rfl rfl ?_
    refine mj_getR C ff_X6_9 dX6_append_13 sh_1 rfl ?_
    refine mj_aload_n C 0 dX6_append_16 (i := 0) rfl rfl ?_
    refine mj_getI C ff_X6_26 dX6_append_17 sh_1 rfl ?_
    refine mj_iload_n C 1 dX6_append_20 (i := 1) rfl rfl ?_
    refine mj_iast C dX6_append_21 sh_2 (fun h_1 => ?_)
    refine mj_aload_n C 0 dX6_append_22 (i := 0) rfl rfl ?_
    refine mj_dup C dX6_append_23 rfl ?_
    refine mj_getI C ff_X6_26 dX6_append_24 sh_1 rfl ?_
    refine mj_iconst C (v := 1) dX6_append_27 rfl ?_
    refine mj_iadd C dX6_append_28 ?_
    refine mj_putL C fp_X6_26 dX6_append_29 sh_1 rfl rfl rfl (fun h_2 => ?_)
    refine mj_iconst C (v := 1) dX6_append_32 rfl ?_
    exact mj_rZM C N dX6_append_33
  · refine mj_iconst C (v := 0) dX6_append_10 rfl ?_
    exact mj_rZM C N dX6_append_11
noncomputable def fX6_exchange (h : Mm) (c1 : Nat) : Option (Nat × Mm) := md_lt (md_up h 1 6 (md_ex c1)) (fun h_1 : Mm => some ((md_dx (h 1 6)), h_1))
set_option maxRecDepth 100000 in
set_option maxHeartbeats 4000000 in
theorem ctX6_exchange (K : Kx) (h : Mm) (c1 : Nat) (hc1 : isCnt c1) {a : Nat × Mm} (hF : fX6_exchange h c1 = some a) : Mt K yX6_exchange cX6_exchange 3 (some (.object "MindDuty$Country")) 0 0 SHc [rf K 1, rf K c1] h (some (rf K a.1)) a.2 := by
  refine Mt.of hF [(0, rf K 1), (1, rf K c1)] (by decide) (Nat.le_of_ble_eq_true rfl) rfl (fun Y C N => ?_)
  have C : Cx K Y (0, 0) cX6_exchange RX6 3 0 0 := C
  unfold fX6_exchange
  refine mj_aload_n C 0 dX6_exchange_0 (i := 0) rfl rfl ?_
  refine mj_getM C ff_X6_22 dX6_exchange_1 sh_1 rfl ?_
  refine mj_astore_n C [(2, rf K (md_dx (h 1 6))), (0, rf K 1), (1, rf K c1)] dX6_exchange_4 (i := 2) rfl (by decide) rfl ?_
  refine mj_aload_n C 1 dX6_exchange_5 (i := 0) rfl rfl ?_
  refine mj_aload_n C 2 dX6_exchange_6 (i := 1) rfl rfl ?_
  refine mj_putM C fp_X6_22 dX6_exchange_7 sh_1 rfl (cnt_ex hc1) (fun _ => rfl) (fun _ => rfl) (fun h_1 => ?_)
  refine mj_aload_n C 0 dX6_exchange_10 (i := 2) rfl rfl ?_
  exact mj_rAM C N dX6_exchange_11
noncomputable def fX6_skipBlanks_0 : Nat → Mm → Option (Mm)
  | 0, _ => none
  | n + 1, h => (if (h 1 1) ≤ (h 1 4) then some h else (if (240 : Int32) ≤ (h 1 4) then some h else md_ck (md_in (h 1 4) 240) ((if (h 2 ((h 1 4)).toNatClampNeg) = (32 : Int32) then md_lt (md_up h 1 4 ((h 1 4) + (1 : Int32))) (fun h_1 : Mm => fX6_skipBlanks_0 n h_1) else some h))))
set_option maxRecDepth 100000 in
set_option maxHeartbeats 4000000 in
theorem lX6_skipBlanks_0 {K : Kx} {Y : Yx} {cs : Nat × Nat} (C : Cx K Y cs cX6_skipBlanks RX6 1 0 0) {P : Mm → Prop} : ∀ (n : Nat) (h : Mm), (∀ (hw : Mm), J SHc K Y cs (P hw) 48 [] [] hw) → J SHc K Y cs (mj_O (fX6_skipBlanks_0 n h) P) 0 [(0, rf K 1)] [] h := by
  intro n
  induction n with
  | zero => intro h kk0; exact mj_none
  | succ n ih =>
    intro h kk0
    rw [fX6_skipBlanks_0]
    refine mj_aload_n C 0 dX6_skipBlanks_0 (i := 0) rfl rfl ?_
    refine mj_getI C ff_X6_32 dX6_skipBlanks_1 sh_1 rfl ?_
    refine mj_aload_n C 0 dX6_skipBlanks_4 (i := 0) rfl rfl ?_
    refine mj_getI C ff_X6_26 dX6_skipBlanks_5 sh_1 rfl ?_
    refine mj_icmp_ge C 48 dX6_skipBlanks_8 (by decide) ?_ ?_
    · exact mj_sub [] rfl (mj_some (kk0 h))
    · refine mj_aload_n C 0 dX6_skipBlanks_11 (i := 0) rfl rfl ?_
      refine mj_getI C ff_X6_32 dX6_skipBlanks_12 sh_1 rfl ?_
      refine mj_sipush C (v := 240) dX6_skipBlanks_15 rfl ?_
      refine mj_icmp_ge C 48 dX6_skipBlanks_18 (by decide) ?_ ?_
      · exact mj_sub [] rfl (mj_some (kk0 h))
      · refine mj_aload_n C 0 dX6_skipBlanks_21 (i := 0) rfl rfl ?_
        refine mj_getR C ff_X6_9 dX6_skipBlanks_22 sh_1 rfl ?_
        refine mj_aload_n C 0 dX6_skipBlanks_25 (i := 0) rfl rfl ?_
        refine mj_getI C ff_X6_32 dX6_skipBlanks_26 sh_1 rfl ?_
        refine mj_iald C dX6_skipBlanks_29 sh_2 ?_
        refine mj_bipush C (v := 32) dX6_skipBlanks_30 rfl ?_
        refine mj_icmp_ne C 48 dX6_skipBlanks_32 (by decide) ?_ ?_
        · exact mj_sub [] rfl (mj_some (kk0 h))
        · refine mj_aload_n C 0 dX6_skipBlanks_35 (i := 0) rfl rfl ?_
          refine mj_dup C dX6_skipBlanks_36 rfl ?_
          refine mj_getI C ff_X6_32 dX6_skipBlanks_37 sh_1 rfl ?_
          refine mj_iconst C (v := 1) dX6_skipBlanks_40 rfl ?_
          refine mj_iadd C dX6_skipBlanks_41 ?_
          refine mj_putL C fp_X6_32 dX6_skipBlanks_42 sh_1 rfl rfl rfl (fun h_1 => ?_)
          refine mj_goto C 0 dX6_skipBlanks_45 (by decide) ?_
          exact mj_sub [0] rfl (ih h_1  kk0)
noncomputable def fX6_skipBlanks (h : Mm) : Option (Mm) := md_bd (fX6_skipBlanks_0 md_N h) (fun (h_2 : Mm) => some h_2)
set_option maxRecDepth 100000 in
set_option maxHeartbeats 4000000 in
theorem ctX6_skipBlanks (K : Kx) (h : Mm) {a : Mm} (hF : fX6_skipBlanks h = some a) : Mt K yX6_skipBlanks cX6_skipBlanks 1 none 0 0 SHc [rf K 1] h none a := by
  refine Mt.of hF [(0, rf K 1)] (by decide) (Nat.le_of_ble_eq_true rfl) rfl (fun Y C N => ?_)
  have C : Cx K Y (0, 0) cX6_skipBlanks RX6 1 0 0 := C
  unfold fX6_skipBlanks
  refine mj_phi1 48 (fun (h_2 : Mm) => []) (fun (h_2 : Mm) => []) (fun (h_2 : Mm) => h_2) (fun P' kj_3 => mj_sub [0] rfl (lX6_skipBlanks_0 C md_N h  kj_3)) (fun h_2 => ?_)
  exact mj_rV C N dX6_skipBlanks_48
noncomputable def fX6_letterHere (h : Mm) : Option (Int32) := md_bd ((if (h 1 4) < 0 then some (-1 : Int32) else (if (h 1 1) ≤ (h 1 4) then some (-1 : Int32) else (if (240 : Int32) ≤ (h 1 4) then some (-1 : Int32) else md_ck (md_in (h 1 4) 240) (some (h 2 ((h 1 4)).toNatClampNeg)))))) (fun (v_1 : Int32) => some v_1)
set_option maxRecDepth 100000 in
set_option maxHeartbeats 4000000 in
theorem ctX6_letterHere (K : Kx) (h : Mm) {a : Int32} (hF : fX6_letterHere h = some a) : Mt K yX6_letterHere cX6_letterHere 1 (some .int) 0 0 SHc [rf K 1] h (some (.int a)) h := by
  refine Mt.of hF [(0, rf K 1)] (by decide) (Nat.le_of_ble_eq_true rfl) rfl (fun Y C N => ?_)
  have C : Cx K Y (0, 0) cX6_letterHere RX6 1 0 0 := C
  unfold fX6_letterHere
  refine mj_aload_n C 0 dX6_letterHere_0 (i := 0) rfl rfl ?_
  refine mj_getI C ff_X6_32 dX6_letterHere_1 sh_1 rfl ?_
  refine mj_phi1 41 (fun (v_1 : Int32) => []) (fun (v_1 : Int32) => [.int v_1]) (fun (v_1 : Int32) => h) (fun P' kj_2 => ?_) (fun v_1 => ?_)
  · refine mj_if_lt C 40 dX6_letterHere_4 (by decide) ?_ ?_
    · refine mj_iconst C (v := -1) dX6_letterHere_40 rfl ?_
      exact mj_sub [] rfl (mj_some (kj_2 (-1 : Int32)))
    · refine mj_aload_n C 0 dX6_letterHere_7 (i := 0) rfl rfl ?_
      refine mj_getI C ff_X6_32 dX6_letterHere_8 sh_1 rfl ?_
      refine mj_aload_n C 0 dX6_letterHere_11 (i := 0) rfl rfl ?_
      refine mj_getI C ff_X6_26 dX6_letterHere_12 sh_1 rfl ?_
      refine mj_icmp_ge C 40 dX6_letterHere_15 (by decide) ?_ ?_
      · refine mj_iconst C (v := -1) dX6_letterHere_40 rfl ?_
        exact mj_sub [] rfl (mj_some (kj_2 (-1 : Int32)))
      · refine mj_aload_n C 0 dX6_letterHere_18 (i := 0) rfl rfl ?_
        refine mj_getI C ff_X6_32 dX6_letterHere_19 sh_1 rfl ?_
        refine mj_sipush C (v := 240) dX6_letterHere_22 rfl ?_
        refine mj_icmp_ge C 40 dX6_letterHere_25 (by decide) ?_ ?_
        · refine mj_iconst C (v := -1) dX6_letterHere_40 rfl ?_
          exact mj_sub [] rfl (mj_some (kj_2 (-1 : Int32)))
        · refine mj_aload_n C 0 dX6_letterHere_28 (i := 0) rfl rfl ?_
          refine mj_getR C ff_X6_9 dX6_letterHere_29 sh_1 rfl ?_
          refine mj_aload_n C 0 dX6_letterHere_32 (i := 0) rfl rfl ?_
          refine mj_getI C ff_X6_32 dX6_letterHere_33 sh_1 rfl ?_
          refine mj_iald C dX6_letterHere_36 sh_2 ?_
          refine mj_goto C 41 dX6_letterHere_37 (by decide) ?_
          exact mj_sub [] rfl (mj_some (kj_2 (h 2 ((h 1 4)).toNatClampNeg)))
  · exact mj_rI C N dX6_letterHere_41
noncomputable def fX6_findFault (h : Mm) (l1 : Int32) (l2 : Int32) : Option (Mm) := md_bd ((if (h 1 3) = 0 then md_lt (md_up h 1 3 l1) (fun h_3 : Mm => md_lt (md_up h_3 1 2 l2) (fun h_4 : Mm => some h_4)) else some h)) (fun (h_1 : Mm) => some h_1)
set_option maxRecDepth 100000 in
set_option maxHeartbeats 4000000 in
theorem ctX6_findFault (K : Kx) (h : Mm) (l1 : Int32) (l2 : Int32) {a : Mm} (hF : fX6_findFault h l1 l2 = some a) : Mt K yX6_findFault cX6_findFault 3 none 0 0 SHc [rf K 1, .int l1, .int l2] h none a := by
  refine Mt.of hF [(0, rf K 1), (1, .int l1), (2, .int l2)] (by decide) (Nat.le_of_ble_eq_true rfl) rfl (fun Y C N => ?_)
  have C : Cx K Y (0, 0) cX6_findFault RX6 3 0 0 := C
  unfold fX6_findFault
  refine mj_aload_n C 0 dX6_findFault_0 (i := 0) rfl rfl ?_
  refine mj_getI C ff_X6_35 dX6_findFault_1 sh_1 rfl ?_
  refine mj_phi1 17 (fun (h_1 : Mm) => []) (fun (h_1 : Mm) => []) (fun (h_1 : Mm) => h_1) (fun P' kj_2 => ?_) (fun h_1 => ?_)
  · refine mj_if_ne C 17 dX6_findFault_4 (by decide) ?_ ?_
    · exact mj_sub [] rfl (mj_some (kj_2 h))
    · refine mj_aload_n C 0 dX6_findFault_7 (i := 0) rfl rfl ?_
      refine mj_iload_n C 1 dX6_findFault_8 (i := 1) rfl rfl ?_
      refine mj_putL C fp_X6_35 dX6_findFault_9 sh_1 rfl rfl rfl (fun h_3 => ?_)
      refine mj_aload_n C 0 dX6_findFault_12 (i := 0) rfl rfl ?_
      refine mj_iload_n C 2 dX6_findFault_13 (i := 2) rfl rfl ?_
      refine mj_putL C fp_X6_15 dX6_findFault_14 sh_1 rfl rfl rfl (fun h_4 => ?_)
      exact mj_sub [] rfl (mj_some (kj_2 h_4))
  · exact mj_rV C N dX6_findFault_17
noncomputable def fX6_checkWord (h : Mm) (l1 : Int32) : Option (Mm) := md_bd ((if l1 = (103 : Int32) then some true else (if l1 = (105 : Int32) then some true else (if l1 = (106 : Int32) then some true else (if l1 = (100 : Int32) then some true else (if l1 = (114 : Int32) then some true else (if l1 = (116 : Int32) then some true else some false))))))) (fun (v_1 : Bool) => md_bd ((if v_1 = true then (if (h (md_dx (h 1 6)) 0) = 0 then (if l1 = (103 : Int32) then some h else md_bd (fX6_findFault h (1 : Int32) (h 1 4)) (fun h_6 => some h_6)) else some h) else md_bd (fX6_findFault h (1 : Int32) (h 1 4)) (fun h_5 => some h_5))) (fun (h_3 : Mm) => md_bd ((if l1 = (103 : Int32) then (if (h_3 (md_dx (h_3 1 6)) 0) = 0 then (if l1 = (105 : Int32) then (if (8 : Int32) ≤ (h_3 (md_dx (h_3 1 6)) 3) then some true else (if l1 = (106 : Int32) then (if (10 : Int32) ≤ (h_3 (md_dx (h_3 1 6)) 5) then some true else (if l1 = (100 : Int32) then (if (10 : Int32) ≤ (h_3 (md_dx (h_3 1 6)) 9) then some true else (if l1 = (116 : Int32) then (if (h_3 (md_dx (h_3 1 6)) 14) < (5 : Int32) then some false else some true) else some false)) else (if l1 = (116 : Int32) then (if (h_3 (md_dx (h_3 1 6)) 14) < (5 : Int32) then some false else some true) else some false))) else (if l1 = (100 : Int32) then (if (10 : Int32) ≤ (h_3 (md_dx (h_3 1 6)) 9) then some true else (if l1 = (116 : Int32) then (if (h_3 (md_dx (h_3 1 6)) 14) < (5 : Int32) then some false else some true) else some false)) else (if l1 = (116 : Int32) then (if (h_3 (md_dx (h_3 1 6)) 14) < (5 : Int32) then some false else some true) else some false)))) else (if l1 = (106 : Int32) then (if (10 : Int32) ≤ (h_3 (md_dx (h_3 1 6)) 5) then some true else (if l1 = (100 : Int32) then (if (10 : Int32) ≤ (h_3 (md_dx (h_3 1 6)) 9) then some true else (if l1 = (116 : Int32) then (if (h_3 (md_dx (h_3 1 6)) 14) < (5 : Int32) then some false else some true) else some false)) else (if l1 = (116 : Int32) then (if (h_3 (md_dx (h_3 1 6)) 14) < (5 : Int32) then some false else some true) else some false))) else (if l1 = (100 : Int32) then (if (10 : Int32) ≤ (h_3 (md_dx (h_3 1 6)) 9) then some true else (if l1 = (116 : Int32) then (if (h_3 (md_dx (h_3 1 6)) 14) < (5 : Int32) then some false else some true) else some false)) else (if l1 = (116 : Int32) then (if (h_3 (md_dx (h_3 1 6)) 14) < (5 : Int32) then some false else some true) else some false)))) else some true) else (if l1 = (105 : Int32) then (if (8 : Int32) ≤ (h_3 (md_dx (h_3 1 6)) 3) then some true else (if l1 = (106 : Int32) then (if (10 : Int32) ≤ (h_3 (md_dx (h_3 1 6)) 5) then some true else (if l1 = (100 : Int32) then (if (10 : Int32) ≤ (h_3 (md_dx (h_3 1 6)) 9) then some true else (if l1 = (116 : Int32) then (if (h_3 (md_dx (h_3 1 6)) 14) < (5 : Int32) then some false else some true) else some false)) else (if l1 = (116 : Int32) then (if (h_3 (md_dx (h_3 1 6)) 14) < (5 : Int32) then some false else some true) else some false))) else (if l1 = (100 : Int32) then (if (10 : Int32) ≤ (h_3 (md_dx (h_3 1 6)) 9) then some true else (if l1 = (116 : Int32) then (if (h_3 (md_dx (h_3 1 6)) 14) < (5 : Int32) then some false else some true) else some false)) else (if l1 = (116 : Int32) then (if (h_3 (md_dx (h_3 1 6)) 14) < (5 : Int32) then some false else some true) else some false)))) else (if l1 = (106 : Int32) then (if (10 : Int32) ≤ (h_3 (md_dx (h_3 1 6)) 5) then some true else (if l1 = (100 : Int32) then (if (10 : Int32) ≤ (h_3 (md_dx (h_3 1 6)) 9) then some true else (if l1 = (116 : Int32) then (if (h_3 (md_dx (h_3 1 6)) 14) < (5 : Int32) then some false else some true) else some false)) else (if l1 = (116 : Int32) then (if (h_3 (md_dx (h_3 1 6)) 14) < (5 : Int32) then some false else some true) else some false))) else (if l1 = (100 : Int32) then (if (10 : Int32) ≤ (h_3 (md_dx (h_3 1 6)) 9) then some true else (if l1 = (116 : Int32) then (if (h_3 (md_dx (h_3 1 6)) 14) < (5 : Int32) then some false else some true) else some false)) else (if l1 = (116 : Int32) then (if (h_3 (md_dx (h_3 1 6)) 14) < (5 : Int32) then some false else some true) else some false)))))) (fun (v_7 : Bool) => md_bd ((if v_7 = true then md_bd (fX6_findFault h_3 (3 : Int32) (h_3 1 4)) (fun h_11 => some h_11) else some h_3)) (fun (h_9 : Mm) => some h_9))))
set_option maxRecDepth 100000 in
set_option maxHeartbeats 4000000 in
theorem ctX6_checkWord (K : Kx) (h : Mm) (l1 : Int32) {a : Mm} (hF : fX6_checkWord h l1 = some a) : Mt K yX6_checkWord cX6_checkWord 4 none 1 22 SHc [rf K 1, .int l1] h none a := by
  refine Mt.of hF [(0, rf K 1), (1, .int l1)] (by decide) (Nat.le_of_ble_eq_true rfl) rfl (fun Y C N => ?_)
  have C : Cx K Y (0, 0) cX6_checkWord RX6 4 1 22 := C
  unfold fX6_checkWord
  refine mj_iload_n C 1 dX6_checkWord_0 (i := 1) rfl rfl ?_
  refine mj_bipush C (v := 103) dX6_checkWord_1 rfl ?_
  refine mj_phi1 41 (fun (v_1 : Bool) => [(0, rf K 1), (1, .int l1)]) (fun (v_1 : Bool) => [.int (md_bi v_1)]) (fun (v_1 : Bool) => h) (fun P' kj_2 => ?_) (fun v_1 => ?_)
  · refine mj_icmp_eq C 36 dX6_checkWord_3 (by decide) ?_ ?_
    · refine mj_iconst C (v := 1) dX6_checkWord_36 rfl ?_
      refine mj_goto C 41 dX6_checkWord_37 (by decide) ?_
      exact mj_sub [0, 1] rfl (mj_some (kj_2 true))
    · refine mj_iload_n C 1 dX6_checkWord_6 (i := 1) rfl rfl ?_
      refine mj_bipush C (v := 105) dX6_checkWord_7 rfl ?_
      refine mj_icmp_eq C 36 dX6_checkWord_9 (by decide) ?_ ?_
      · refine mj_iconst C (v := 1) dX6_checkWord_36 rfl ?_
        refine mj_goto C 41 dX6_checkWord_37 (by decide) ?_
        exact mj_sub [0, 1] rfl (mj_some (kj_2 true))
      · refine mj_iload_n C 1 dX6_checkWord_12 (i := 1) rfl rfl ?_
        refine mj_bipush C (v := 106) dX6_checkWord_13 rfl ?_
        refine mj_icmp_eq C 36 dX6_checkWord_15 (by decide) ?_ ?_
        · refine mj_iconst C (v := 1) dX6_checkWord_36 rfl ?_
          refine mj_goto C 41 dX6_checkWord_37 (by decide) ?_
          exact mj_sub [0, 1] rfl (mj_some (kj_2 true))
        · refine mj_iload_n C 1 dX6_checkWord_18 (i := 1) rfl rfl ?_
          refine mj_bipush C (v := 100) dX6_checkWord_19 rfl ?_
          refine mj_icmp_eq C 36 dX6_checkWord_21 (by decide) ?_ ?_
          · refine mj_iconst C (v := 1) dX6_checkWord_36 rfl ?_
            refine mj_goto C 41 dX6_checkWord_37 (by decide) ?_
            exact mj_sub [0, 1] rfl (mj_some (kj_2 true))
          · refine mj_iload_n C 1 dX6_checkWord_24 (i := 1) rfl rfl ?_
            refine mj_bipush C (v := 114) dX6_checkWord_25 rfl ?_
            refine mj_icmp_eq C 36 dX6_checkWord_27 (by decide) ?_ ?_
            · refine mj_iconst C (v := 1) dX6_checkWord_36 rfl ?_
              refine mj_goto C 41 dX6_checkWord_37 (by decide) ?_
              exact mj_sub [0, 1] rfl (mj_some (kj_2 true))
            · refine mj_iload_n C 1 dX6_checkWord_30 (i := 1) rfl rfl ?_
              refine mj_bipush C (v := 116) dX6_checkWord_31 rfl ?_
              refine mj_icmp_ne C 40 dX6_checkWord_33 (by decide) ?_ ?_
              · refine mj_iconst C (v := 0) dX6_checkWord_40 rfl ?_
                exact mj_sub [0, 1] rfl (mj_some (kj_2 false))
              · refine mj_iconst C (v := 1) dX6_checkWord_36 rfl ?_
                refine mj_goto C 41 dX6_checkWord_37 (by decide) ?_
                exact mj_sub [0, 1] rfl (mj_some (kj_2 true))
  · refine mj_istore_n C [(2, .int (md_bi v_1)), (0, rf K 1), (1, .int l1)] dX6_checkWord_41 (i := 2) rfl (by decide) rfl ?_
    refine mj_iload_n C 0 dX6_checkWord_42 (i := 2) rfl rfl ?_
    refine mj_phi1 71 (fun (h_3 : Mm) => [(0, rf K 1), (1, .int l1)]) (fun (h_3 : Mm) => []) (fun (h_3 : Mm) => h_3) (fun P' kj_4 => ?_) (fun h_3 => ?_)
    · refine mj_b_eq C 62 dX6_checkWord_43 (by decide) ?_ ?_
      · refine mj_aload_n C 1 dX6_checkWord_62 (i := 0) rfl rfl ?_
        refine mj_iconst C (v := 1) dX6_checkWord_63 rfl ?_
        refine mj_aload_n C 1 dX6_checkWord_64 (i := 0) rfl rfl ?_
        refine mj_getI C ff_X6_32 dX6_checkWord_65 sh_1 rfl ?_
        refine mj_vM C my_X6_findFault mv_X6_77 dX6_checkWord_68 sh_1 rfl (fun a hF => ctX6_findFault K h (1 : Int32) (h 1 4)  hF) (by decide) (by decide) rfl rfl (Nat.le_of_ble_eq_true rfl) (fun h_5 => ?_)
        exact mj_sub [1, 2] rfl (mj_some (kj_4 h_5))
      · refine mj_aload_n C 1 dX6_checkWord_46 (i := 0) rfl rfl ?_
        refine mj_getM C ff_X6_22 dX6_checkWord_47 sh_1 rfl ?_
        refine mj_getI C ff_X6_73 dX6_checkWord_50 (cn_o (cnt_dx (h 1 6))) rfl ?_
        refine mj_if_ne C 71 dX6_checkWord_53 (by decide) ?_ ?_
        · exact mj_sub [1, 2] rfl (mj_some (kj_4 h))
        · refine mj_iload_n C 2 dX6_checkWord_56 (i := 1) rfl rfl ?_
          refine mj_bipush C (v := 103) dX6_checkWord_57 rfl ?_
          refine mj_icmp_eq C 71 dX6_checkWord_59 (by decide) ?_ ?_
          · exact mj_sub [1, 2] rfl (mj_some (kj_4 h))
          · refine mj_aload_n C 1 dX6_checkWord_62 (i := 0) rfl rfl ?_
            refine mj_iconst C (v := 1) dX6_checkWord_63 rfl ?_
            refine mj_aload_n C 1 dX6_checkWord_64 (i := 0) rfl rfl ?_
            refine mj_getI C ff_X6_32 dX6_checkWord_65 sh_1 rfl ?_
            refine mj_vM C my_X6_findFault mv_X6_77 dX6_checkWord_68 sh_1 rfl (fun a hF => ctX6_findFault K h (1 : Int32) (h 1 4)  hF) (by decide) (by decide) rfl rfl (Nat.le_of_ble_eq_true rfl) (fun h_6 => ?_)
            exact mj_sub [1, 2] rfl (mj_some (kj_4 h_6))
    · refine mj_iload_n C 1 dX6_checkWord_71 (i := 1) rfl rfl ?_
      refine mj_bipush C (v := 103) dX6_checkWord_72 rfl ?_
      refine mj_phi1 163 (fun (v_7 : Bool) => [(0, rf K 1)]) (fun (v_7 : Bool) => [.int (md_bi v_7)]) (fun (v_7 : Bool) => h_3) (fun P' kj_8 => ?_) (fun v_7 => ?_)
      · refine mj_icmp_ne C 87 dX6_checkWord_74 (by decide) ?_ ?_
        · refine mj_iload_n C 1 dX6_checkWord_87 (i := 1) rfl rfl ?_
          refine mj_bipush C (v := 105) dX6_checkWord_88 rfl ?_
          refine mj_icmp_ne C 105 dX6_checkWord_90 (by decide) ?_ ?_
          · refine mj_iload_n C 1 dX6_checkWord_105 (i := 1) rfl rfl ?_
            refine mj_bipush C (v := 106) dX6_checkWord_106 rfl ?_
            refine mj_icmp_ne C 123 dX6_checkWord_108 (by decide) ?_ ?_
            · refine mj_iload_n C 1 dX6_checkWord_123 (i := 1) rfl rfl ?_
              refine mj_bipush C (v := 100) dX6_checkWord_124 rfl ?_
              refine mj_icmp_ne C 141 dX6_checkWord_126 (by decide) ?_ ?_
              · refine mj_iload_n C 1 dX6_checkWord_141 (i := 1) rfl rfl ?_
                refine mj_bipush C (v := 116) dX6_checkWord_142 rfl ?_
                refine mj_icmp_ne C 162 dX6_checkWord_144 (by decide) ?_ ?_
                · refine mj_iconst C (v := 0) dX6_checkWord_162 rfl ?_
                  exact mj_sub [0] rfl (mj_some (kj_8 false))
                · refine mj_aload_n C 0 dX6_checkWord_147 (i := 0) rfl rfl ?_
                  refine mj_getM C ff_X6_22 dX6_checkWord_148 sh_1 rfl ?_
                  refine mj_getI C ff_X6_90 dX6_checkWord_151 (cn_o (cnt_dx (h_3 1 6))) rfl ?_
                  refine mj_iconst C (v := 5) dX6_checkWord_154 rfl ?_
                  refine mj_icmp_lt C 162 dX6_checkWord_155 (by decide) ?_ ?_
                  · refine mj_iconst C (v := 0) dX6_checkWord_162 rfl ?_
                    exact mj_sub [0] rfl (mj_some (kj_8 false))
                  · refine mj_iconst C (v := 1) dX6_checkWord_158 rfl ?_
                    refine mj_goto C 163 dX6_checkWord_159 (by decide) ?_
                    exact mj_sub [0] rfl (mj_some (kj_8 true))
              · refine mj_aload_n C 0 dX6_checkWord_129 (i := 0) rfl rfl ?_
                refine mj_getM C ff_X6_22 dX6_checkWord_130 sh_1 rfl ?_
                refine mj_getI C ff_X6_87 dX6_checkWord_133 (cn_o (cnt_dx (h_3 1 6))) rfl ?_
                refine mj_bipush C (v := 10) dX6_checkWord_136 rfl ?_
                refine mj_icmp_ge C 158 dX6_checkWord_138 (by decide) ?_ ?_
                · refine mj_iconst C (v := 1) dX6_checkWord_158 rfl ?_
                  refine mj_goto C 163 dX6_checkWord_159 (by decide) ?_
                  exact mj_sub [0] rfl (mj_some (kj_8 true))
                · refine mj_iload_n C 1 dX6_checkWord_141 (i := 1) rfl rfl ?_
                  refine mj_bipush C (v := 116) dX6_checkWord_142 rfl ?_
                  refine mj_icmp_ne C 162 dX6_checkWord_144 (by decide) ?_ ?_
                  · refine mj_iconst C (v := 0) dX6_checkWord_162 rfl ?_
                    exact mj_sub [0] rfl (mj_some (kj_8 false))
                  · refine mj_aload_n C 0 dX6_checkWord_147 (i := 0) rfl rfl ?_
                    refine mj_getM C ff_X6_22 dX6_checkWord_148 sh_1 rfl ?_
                    refine mj_getI C ff_X6_90 dX6_checkWord_151 (cn_o (cnt_dx (h_3 1 6))) rfl ?_
                    refine mj_iconst C (v := 5) dX6_checkWord_154 rfl ?_
                    refine mj_icmp_lt C 162 dX6_checkWord_155 (by decide) ?_ ?_
                    · refine mj_iconst C (v := 0) dX6_checkWord_162 rfl ?_
                      exact mj_sub [0] rfl (mj_some (kj_8 false))
                    · refine mj_iconst C (v := 1) dX6_checkWord_158 rfl ?_
                      refine mj_goto C 163 dX6_checkWord_159 (by decide) ?_
                      exact mj_sub [0] rfl (mj_some (kj_8 true))
            · refine mj_aload_n C 0 dX6_checkWord_111 (i := 0) rfl rfl ?_
              refine mj_getM C ff_X6_22 dX6_checkWord_112 sh_1 rfl ?_
              refine mj_getI C ff_X6_84 dX6_checkWord_115 (cn_o (cnt_dx (h_3 1 6))) rfl ?_
              refine mj_bipush C (v := 10) dX6_checkWord_118 rfl ?_
              refine mj_icmp_ge C 158 dX6_checkWord_120 (by decide) ?_ ?_
              · refine mj_iconst C (v := 1) dX6_checkWord_158 rfl ?_
                refine mj_goto C 163 dX6_checkWord_159 (by decide) ?_
                exact mj_sub [0] rfl (mj_some (kj_8 true))
              · refine mj_iload_n C 1 dX6_checkWord_123 (i := 1) rfl rfl ?_
                refine mj_bipush C (v := 100) dX6_checkWord_124 rfl ?_
                refine mj_icmp_ne C 141 dX6_checkWord_126 (by decide) ?_ ?_
                · refine mj_iload_n C 1 dX6_checkWord_141 (i := 1) rfl rfl ?_
                  refine mj_bipush C (v := 116) dX6_checkWord_142 rfl ?_
                  refine mj_icmp_ne C 162 dX6_checkWord_144 (by decide) ?_ ?_
                  · refine mj_iconst C (v := 0) dX6_checkWord_162 rfl ?_
                    exact mj_sub [0] rfl (mj_some (kj_8 false))
                  · refine mj_aload_n C 0 dX6_checkWord_147 (i := 0) rfl rfl ?_
                    refine mj_getM C ff_X6_22 dX6_checkWord_148 sh_1 rfl ?_
                    refine mj_getI C ff_X6_90 dX6_checkWord_151 (cn_o (cnt_dx (h_3 1 6))) rfl ?_
                    refine mj_iconst C (v := 5) dX6_checkWord_154 rfl ?_
                    refine mj_icmp_lt C 162 dX6_checkWord_155 (by decide) ?_ ?_
                    · refine mj_iconst C (v := 0) dX6_checkWord_162 rfl ?_
                      exact mj_sub [0] rfl (mj_some (kj_8 false))
                    · refine mj_iconst C (v := 1) dX6_checkWord_158 rfl ?_
                      refine mj_goto C 163 dX6_checkWord_159 (by decide) ?_
                      exact mj_sub [0] rfl (mj_some (kj_8 true))
                · refine mj_aload_n C 0 dX6_checkWord_129 (i := 0) rfl rfl ?_
                  refine mj_getM C ff_X6_22 dX6_checkWord_130 sh_1 rfl ?_
                  refine mj_getI C ff_X6_87 dX6_checkWord_133 (cn_o (cnt_dx (h_3 1 6))) rfl ?_
                  refine mj_bipush C (v := 10) dX6_checkWord_136 rfl ?_
                  refine mj_icmp_ge C 158 dX6_checkWord_138 (by decide) ?_ ?_
                  · refine mj_iconst C (v := 1) dX6_checkWord_158 rfl ?_
                    refine mj_goto C 163 dX6_checkWord_159 (by decide) ?_
                    exact mj_sub [0] rfl (mj_some (kj_8 true))
                  · refine mj_iload_n C 1 dX6_checkWord_141 (i := 1) rfl rfl ?_
                    refine mj_bipush C (v := 116) dX6_checkWord_142 rfl ?_
                    refine mj_icmp_ne C 162 dX6_checkWord_144 (by decide) ?_ ?_
                    · refine mj_iconst C (v := 0) dX6_checkWord_162 rfl ?_
                      exact mj_sub [0] rfl (mj_some (kj_8 false))
                    · refine mj_aload_n C 0 dX6_checkWord_147 (i := 0) rfl rfl ?_
                      refine mj_getM C ff_X6_22 dX6_checkWord_148 sh_1 rfl ?_
                      refine mj_getI C ff_X6_90 dX6_checkWord_151 (cn_o (cnt_dx (h_3 1 6))) rfl ?_
                      refine mj_iconst C (v := 5) dX6_checkWord_154 rfl ?_
                      refine mj_icmp_lt C 162 dX6_checkWord_155 (by decide) ?_ ?_
                      · refine mj_iconst C (v := 0) dX6_checkWord_162 rfl ?_
                        exact mj_sub [0] rfl (mj_some (kj_8 false))
                      · refine mj_iconst C (v := 1) dX6_checkWord_158 rfl ?_
                        refine mj_goto C 163 dX6_checkWord_159 (by decide) ?_
                        exact mj_sub [0] rfl (mj_some (kj_8 true))
          · refine mj_aload_n C 0 dX6_checkWord_93 (i := 0) rfl rfl ?_
            refine mj_getM C ff_X6_22 dX6_checkWord_94 sh_1 rfl ?_
            refine mj_getI C ff_X6_81 dX6_checkWord_97 (cn_o (cnt_dx (h_3 1 6))) rfl ?_
            refine mj_bipush C (v := 8) dX6_checkWord_100 rfl ?_
            refine mj_icmp_ge C 158 dX6_checkWord_102 (by decide) ?_ ?_
            · refine mj_iconst C (v := 1) dX6_checkWord_158 rfl ?_
              refine mj_goto C 163 dX6_checkWord_159 (by decide) ?_
              exact mj_sub [0] rfl (mj_some (kj_8 true))
            · refine mj_iload_n C 1 dX6_checkWord_105 (i := 1) rfl rfl ?_
              refine mj_bipush C (v := 106) dX6_checkWord_106 rfl ?_
              refine mj_icmp_ne C 123 dX6_checkWord_108 (by decide) ?_ ?_
              · refine mj_iload_n C 1 dX6_checkWord_123 (i := 1) rfl rfl ?_
                refine mj_bipush C (v := 100) dX6_checkWord_124 rfl ?_
                refine mj_icmp_ne C 141 dX6_checkWord_126 (by decide) ?_ ?_
                · refine mj_iload_n C 1 dX6_checkWord_141 (i := 1) rfl rfl ?_
                  refine mj_bipush C (v := 116) dX6_checkWord_142 rfl ?_
                  refine mj_icmp_ne C 162 dX6_checkWord_144 (by decide) ?_ ?_
                  · refine mj_iconst C (v := 0) dX6_checkWord_162 rfl ?_
                    exact mj_sub [0] rfl (mj_some (kj_8 false))
                  · refine mj_aload_n C 0 dX6_checkWord_147 (i := 0) rfl rfl ?_
                    refine mj_getM C ff_X6_22 dX6_checkWord_148 sh_1 rfl ?_
                    refine mj_getI C ff_X6_90 dX6_checkWord_151 (cn_o (cnt_dx (h_3 1 6))) rfl ?_
                    refine mj_iconst C (v := 5) dX6_checkWord_154 rfl ?_
                    refine mj_icmp_lt C 162 dX6_checkWord_155 (by decide) ?_ ?_
                    · refine mj_iconst C (v := 0) dX6_checkWord_162 rfl ?_
                      exact mj_sub [0] rfl (mj_some (kj_8 false))
                    · refine mj_iconst C (v := 1) dX6_checkWord_158 rfl ?_
                      refine mj_goto C 163 dX6_checkWord_159 (by decide) ?_
                      exact mj_sub [0] rfl (mj_some (kj_8 true))
                · refine mj_aload_n C 0 dX6_checkWord_129 (i := 0) rfl rfl ?_
                  refine mj_getM C ff_X6_22 dX6_checkWord_130 sh_1 rfl ?_
                  refine mj_getI C ff_X6_87 dX6_checkWord_133 (cn_o (cnt_dx (h_3 1 6))) rfl ?_
                  refine mj_bipush C (v := 10) dX6_checkWord_136 rfl ?_
                  refine mj_icmp_ge C 158 dX6_checkWord_138 (by decide) ?_ ?_
                  · refine mj_iconst C (v := 1) dX6_checkWord_158 rfl ?_
                    refine mj_goto C 163 dX6_checkWord_159 (by decide) ?_
                    exact mj_sub [0] rfl (mj_some (kj_8 true))
                  · refine mj_iload_n C 1 dX6_checkWord_141 (i := 1) rfl rfl ?_
                    refine mj_bipush C (v := 116) dX6_checkWord_142 rfl ?_
                    refine mj_icmp_ne C 162 dX6_checkWord_144 (by decide) ?_ ?_
                    · refine mj_iconst C (v := 0) dX6_checkWord_162 rfl ?_
                      exact mj_sub [0] rfl (mj_some (kj_8 false))
                    · refine mj_aload_n C 0 dX6_checkWord_147 (i := 0) rfl rfl ?_
                      refine mj_getM C ff_X6_22 dX6_checkWord_148 sh_1 rfl ?_
                      refine mj_getI C ff_X6_90 dX6_checkWord_151 (cn_o (cnt_dx (h_3 1 6))) rfl ?_
                      refine mj_iconst C (v := 5) dX6_checkWord_154 rfl ?_
                      refine mj_icmp_lt C 162 dX6_checkWord_155 (by decide) ?_ ?_
                      · refine mj_iconst C (v := 0) dX6_checkWord_162 rfl ?_
                        exact mj_sub [0] rfl (mj_some (kj_8 false))
                      · refine mj_iconst C (v := 1) dX6_checkWord_158 rfl ?_
                        refine mj_goto C 163 dX6_checkWord_159 (by decide) ?_
                        exact mj_sub [0] rfl (mj_some (kj_8 true))
              · refine mj_aload_n C 0 dX6_checkWord_111 (i := 0) rfl rfl ?_
                refine mj_getM C ff_X6_22 dX6_checkWord_112 sh_1 rfl ?_
                refine mj_getI C ff_X6_84 dX6_checkWord_115 (cn_o (cnt_dx (h_3 1 6))) rfl ?_
                refine mj_bipush C (v := 10) dX6_checkWord_118 rfl ?_
                refine mj_icmp_ge C 158 dX6_checkWord_120 (by decide) ?_ ?_
                · refine mj_iconst C (v := 1) dX6_checkWord_158 rfl ?_
                  refine mj_goto C 163 dX6_checkWord_159 (by decide) ?_
                  exact mj_sub [0] rfl (mj_some (kj_8 true))
                · refine mj_iload_n C 1 dX6_checkWord_123 (i := 1) rfl rfl ?_
                  refine mj_bipush C (v := 100) dX6_checkWord_124 rfl ?_
                  refine mj_icmp_ne C 141 dX6_checkWord_126 (by decide) ?_ ?_
                  · refine mj_iload_n C 1 dX6_checkWord_141 (i := 1) rfl rfl ?_
                    refine mj_bipush C (v := 116) dX6_checkWord_142 rfl ?_
                    refine mj_icmp_ne C 162 dX6_checkWord_144 (by decide) ?_ ?_
                    · refine mj_iconst C (v := 0) dX6_checkWord_162 rfl ?_
                      exact mj_sub [0] rfl (mj_some (kj_8 false))
                    · refine mj_aload_n C 0 dX6_checkWord_147 (i := 0) rfl rfl ?_
                      refine mj_getM C ff_X6_22 dX6_checkWord_148 sh_1 rfl ?_
                      refine mj_getI C ff_X6_90 dX6_checkWord_151 (cn_o (cnt_dx (h_3 1 6))) rfl ?_
                      refine mj_iconst C (v := 5) dX6_checkWord_154 rfl ?_
                      refine mj_icmp_lt C 162 dX6_checkWord_155 (by decide) ?_ ?_
                      · refine mj_iconst C (v := 0) dX6_checkWord_162 rfl ?_
                        exact mj_sub [0] rfl (mj_some (kj_8 false))
                      · refine mj_iconst C (v := 1) dX6_checkWord_158 rfl ?_
                        refine mj_goto C 163 dX6_checkWord_159 (by decide) ?_
                        exact mj_sub [0] rfl (mj_some (kj_8 true))
                  · refine mj_aload_n C 0 dX6_checkWord_129 (i := 0) rfl rfl ?_
                    refine mj_getM C ff_X6_22 dX6_checkWord_130 sh_1 rfl ?_
                    refine mj_getI C ff_X6_87 dX6_checkWord_133 (cn_o (cnt_dx (h_3 1 6))) rfl ?_
                    refine mj_bipush C (v := 10) dX6_checkWord_136 rfl ?_
                    refine mj_icmp_ge C 158 dX6_checkWord_138 (by decide) ?_ ?_
                    · refine mj_iconst C (v := 1) dX6_checkWord_158 rfl ?_
                      refine mj_goto C 163 dX6_checkWord_159 (by decide) ?_
                      exact mj_sub [0] rfl (mj_some (kj_8 true))
                    · refine mj_iload_n C 1 dX6_checkWord_141 (i := 1) rfl rfl ?_
                      refine mj_bipush C (v := 116) dX6_checkWord_142 rfl ?_
                      refine mj_icmp_ne C 162 dX6_checkWord_144 (by decide) ?_ ?_
                      · refine mj_iconst C (v := 0) dX6_checkWord_162 rfl ?_
                        exact mj_sub [0] rfl (mj_some (kj_8 false))
                      · refine mj_aload_n C 0 dX6_checkWord_147 (i := 0) rfl rfl ?_
                        refine mj_getM C ff_X6_22 dX6_checkWord_148 sh_1 rfl ?_
                        refine mj_getI C ff_X6_90 dX6_checkWord_151 (cn_o (cnt_dx (h_3 1 6))) rfl ?_
                        refine mj_iconst C (v := 5) dX6_checkWord_154 rfl ?_
                        refine mj_icmp_lt C 162 dX6_checkWord_155 (by decide) ?_ ?_
                        · refine mj_iconst C (v := 0) dX6_checkWord_162 rfl ?_
                          exact mj_sub [0] rfl (mj_some (kj_8 false))
                        · refine mj_iconst C (v := 1) dX6_checkWord_158 rfl ?_
                          refine mj_goto C 163 dX6_checkWord_159 (by decide) ?_
                          exact mj_sub [0] rfl (mj_some (kj_8 true))
        · refine mj_aload_n C 0 dX6_checkWord_77 (i := 0) rfl rfl ?_
          refine mj_getM C ff_X6_22 dX6_checkWord_78 sh_1 rfl ?_
          refine mj_getI C ff_X6_73 dX6_checkWord_81 (cn_o (cnt_dx (h_3 1 6))) rfl ?_
          refine mj_if_ne C 158 dX6_checkWord_84 (by decide) ?_ ?_
          · refine mj_iconst C (v := 1) dX6_checkWord_158 rfl ?_
            refine mj_goto C 163 dX6_checkWord_159 (by decide) ?_
            exact mj_sub [0] rfl (mj_some (kj_8 true))
          · refine mj_iload_n C 1 dX6_checkWord_87 (i := 1) rfl rfl ?_
            refine mj_bipush C (v := 105) dX6_checkWord_88 rfl ?_
            refine mj_icmp_ne C 105 dX6_checkWord_90 (by decide) ?_ ?_
            · refine mj_iload_n C 1 dX6_checkWord_105 (i := 1) rfl rfl ?_
              refine mj_bipush C (v := 106) dX6_checkWord_106 rfl ?_
              refine mj_icmp_ne C 123 dX6_checkWord_108 (by decide) ?_ ?_
              · refine mj_iload_n C 1 dX6_checkWord_123 (i := 1) rfl rfl ?_
                refine mj_bipush C (v := 100) dX6_checkWord_124 rfl ?_
                refine mj_icmp_ne C 141 dX6_checkWord_126 (by decide) ?_ ?_
                · refine mj_iload_n C 1 dX6_checkWord_141 (i := 1) rfl rfl ?_
                  refine mj_bipush C (v := 116) dX6_checkWord_142 rfl ?_
                  refine mj_icmp_ne C 162 dX6_checkWord_144 (by decide) ?_ ?_
                  · refine mj_iconst C (v := 0) dX6_checkWord_162 rfl ?_
                    exact mj_sub [0] rfl (mj_some (kj_8 false))
                  · refine mj_aload_n C 0 dX6_checkWord_147 (i := 0) rfl rfl ?_
                    refine mj_getM C ff_X6_22 dX6_checkWord_148 sh_1 rfl ?_
                    refine mj_getI C ff_X6_90 dX6_checkWord_151 (cn_o (cnt_dx (h_3 1 6))) rfl ?_
                    refine mj_iconst C (v := 5) dX6_checkWord_154 rfl ?_
                    refine mj_icmp_lt C 162 dX6_checkWord_155 (by decide) ?_ ?_
                    · refine mj_iconst C (v := 0) dX6_checkWord_162 rfl ?_
                      exact mj_sub [0] rfl (mj_some (kj_8 false))
                    · refine mj_iconst C (v := 1) dX6_checkWord_158 rfl ?_
                      refine mj_goto C 163 dX6_checkWord_159 (by decide) ?_
                      exact mj_sub [0] rfl (mj_some (kj_8 true))
                · refine mj_aload_n C 0 dX6_checkWord_129 (i := 0) rfl rfl ?_
                  refine mj_getM C ff_X6_22 dX6_checkWord_130 sh_1 rfl ?_
                  refine mj_getI C ff_X6_87 dX6_checkWord_133 (cn_o (cnt_dx (h_3 1 6))) rfl ?_
                  refine mj_bipush C (v := 10) dX6_checkWord_136 rfl ?_
                  refine mj_icmp_ge C 158 dX6_checkWord_138 (by decide) ?_ ?_
                  · refine mj_iconst C (v := 1) dX6_checkWord_158 rfl ?_
                    refine mj_goto C 163 dX6_checkWord_159 (by decide) ?_
                    exact mj_sub [0] rfl (mj_some (kj_8 true))
                  · refine mj_iload_n C 1 dX6_checkWord_141 (i := 1) rfl rfl ?_
                    refine mj_bipush C (v := 116) dX6_checkWord_142 rfl ?_
                    refine mj_icmp_ne C 162 dX6_checkWord_144 (by decide) ?_ ?_
                    · refine mj_iconst C (v := 0) dX6_checkWord_162 rfl ?_
                      exact mj_sub [0] rfl (mj_some (kj_8 false))
                    · refine mj_aload_n C 0 dX6_checkWord_147 (i := 0) rfl rfl ?_
                      refine mj_getM C ff_X6_22 dX6_checkWord_148 sh_1 rfl ?_
                      refine mj_getI C ff_X6_90 dX6_checkWord_151 (cn_o (cnt_dx (h_3 1 6))) rfl ?_
                      refine mj_iconst C (v := 5) dX6_checkWord_154 rfl ?_
                      refine mj_icmp_lt C 162 dX6_checkWord_155 (by decide) ?_ ?_
                      · refine mj_iconst C (v := 0) dX6_checkWord_162 rfl ?_
                        exact mj_sub [0] rfl (mj_some (kj_8 false))
                      · refine mj_iconst C (v := 1) dX6_checkWord_158 rfl ?_
                        refine mj_goto C 163 dX6_checkWord_159 (by decide) ?_
                        exact mj_sub [0] rfl (mj_some (kj_8 true))
              · refine mj_aload_n C 0 dX6_checkWord_111 (i := 0) rfl rfl ?_
                refine mj_getM C ff_X6_22 dX6_checkWord_112 sh_1 rfl ?_
                refine mj_getI C ff_X6_84 dX6_checkWord_115 (cn_o (cnt_dx (h_3 1 6))) rfl ?_
                refine mj_bipush C (v := 10) dX6_checkWord_118 rfl ?_
                refine mj_icmp_ge C 158 dX6_checkWord_120 (by decide) ?_ ?_
                · refine mj_iconst C (v := 1) dX6_checkWord_158 rfl ?_
                  refine mj_goto C 163 dX6_checkWord_159 (by decide) ?_
                  exact mj_sub [0] rfl (mj_some (kj_8 true))
                · refine mj_iload_n C 1 dX6_checkWord_123 (i := 1) rfl rfl ?_
                  refine mj_bipush C (v := 100) dX6_checkWord_124 rfl ?_
                  refine mj_icmp_ne C 141 dX6_checkWord_126 (by decide) ?_ ?_
                  · refine mj_iload_n C 1 dX6_checkWord_141 (i := 1) rfl rfl ?_
                    refine mj_bipush C (v := 116) dX6_checkWord_142 rfl ?_
                    refine mj_icmp_ne C 162 dX6_checkWord_144 (by decide) ?_ ?_
                    · refine mj_iconst C (v := 0) dX6_checkWord_162 rfl ?_
                      exact mj_sub [0] rfl (mj_some (kj_8 false))
                    · refine mj_aload_n C 0 dX6_checkWord_147 (i := 0) rfl rfl ?_
                      refine mj_getM C ff_X6_22 dX6_checkWord_148 sh_1 rfl ?_
                      refine mj_getI C ff_X6_90 dX6_checkWord_151 (cn_o (cnt_dx (h_3 1 6))) rfl ?_
                      refine mj_iconst C (v := 5) dX6_checkWord_154 rfl ?_
                      refine mj_icmp_lt C 162 dX6_checkWord_155 (by decide) ?_ ?_
                      · refine mj_iconst C (v := 0) dX6_checkWord_162 rfl ?_
                        exact mj_sub [0] rfl (mj_some (kj_8 false))
                      · refine mj_iconst C (v := 1) dX6_checkWord_158 rfl ?_
                        refine mj_goto C 163 dX6_checkWord_159 (by decide) ?_
                        exact mj_sub [0] rfl (mj_some (kj_8 true))
                  · refine mj_aload_n C 0 dX6_checkWord_129 (i := 0) rfl rfl ?_
                    refine mj_getM C ff_X6_22 dX6_checkWord_130 sh_1 rfl ?_
                    refine mj_getI C ff_X6_87 dX6_checkWord_133 (cn_o (cnt_dx (h_3 1 6))) rfl ?_
                    refine mj_bipush C (v := 10) dX6_checkWord_136 rfl ?_
                    refine mj_icmp_ge C 158 dX6_checkWord_138 (by decide) ?_ ?_
                    · refine mj_iconst C (v := 1) dX6_checkWord_158 rfl ?_
                      refine mj_goto C 163 dX6_checkWord_159 (by decide) ?_
                      exact mj_sub [0] rfl (mj_some (kj_8 true))
                    · refine mj_iload_n C 1 dX6_checkWord_141 (i := 1) rfl rfl ?_
                      refine mj_bipush C (v := 116) dX6_checkWord_142 rfl ?_
                      refine mj_icmp_ne C 162 dX6_checkWord_144 (by decide) ?_ ?_
                      · refine mj_iconst C (v := 0) dX6_checkWord_162 rfl ?_
                        exact mj_sub [0] rfl (mj_some (kj_8 false))
                      · refine mj_aload_n C 0 dX6_checkWord_147 (i := 0) rfl rfl ?_
                        refine mj_getM C ff_X6_22 dX6_checkWord_148 sh_1 rfl ?_
                        refine mj_getI C ff_X6_90 dX6_checkWord_151 (cn_o (cnt_dx (h_3 1 6))) rfl ?_
                        refine mj_iconst C (v := 5) dX6_checkWord_154 rfl ?_
                        refine mj_icmp_lt C 162 dX6_checkWord_155 (by decide) ?_ ?_
                        · refine mj_iconst C (v := 0) dX6_checkWord_162 rfl ?_
                          exact mj_sub [0] rfl (mj_some (kj_8 false))
                        · refine mj_iconst C (v := 1) dX6_checkWord_158 rfl ?_
                          refine mj_goto C 163 dX6_checkWord_159 (by decide) ?_
                          exact mj_sub [0] rfl (mj_some (kj_8 true))
            · refine mj_aload_n C 0 dX6_checkWord_93 (i := 0) rfl rfl ?_
              refine mj_getM C ff_X6_22 dX6_checkWord_94 sh_1 rfl ?_
              refine mj_getI C ff_X6_81 dX6_checkWord_97 (cn_o (cnt_dx (h_3 1 6))) rfl ?_
              refine mj_bipush C (v := 8) dX6_checkWord_100 rfl ?_
              refine mj_icmp_ge C 158 dX6_checkWord_102 (by decide) ?_ ?_
              · refine mj_iconst C (v := 1) dX6_checkWord_158 rfl ?_
                refine mj_goto C 163 dX6_checkWord_159 (by decide) ?_
                exact mj_sub [0] rfl (mj_some (kj_8 true))
              · refine mj_iload_n C 1 dX6_checkWord_105 (i := 1) rfl rfl ?_
                refine mj_bipush C (v := 106) dX6_checkWord_106 rfl ?_
                refine mj_icmp_ne C 123 dX6_checkWord_108 (by decide) ?_ ?_
                · refine mj_iload_n C 1 dX6_checkWord_123 (i := 1) rfl rfl ?_
                  refine mj_bipush C (v := 100) dX6_checkWord_124 rfl ?_
                  refine mj_icmp_ne C 141 dX6_checkWord_126 (by decide) ?_ ?_
                  · refine mj_iload_n C 1 dX6_checkWord_141 (i := 1) rfl rfl ?_
                    refine mj_bipush C (v := 116) dX6_checkWord_142 rfl ?_
                    refine mj_icmp_ne C 162 dX6_checkWord_144 (by decide) ?_ ?_
                    · refine mj_iconst C (v := 0) dX6_checkWord_162 rfl ?_
                      exact mj_sub [0] rfl (mj_some (kj_8 false))
                    · refine mj_aload_n C 0 dX6_checkWord_147 (i := 0) rfl rfl ?_
                      refine mj_getM C ff_X6_22 dX6_checkWord_148 sh_1 rfl ?_
                      refine mj_getI C ff_X6_90 dX6_checkWord_151 (cn_o (cnt_dx (h_3 1 6))) rfl ?_
                      refine mj_iconst C (v := 5) dX6_checkWord_154 rfl ?_
                      refine mj_icmp_lt C 162 dX6_checkWord_155 (by decide) ?_ ?_
                      · refine mj_iconst C (v := 0) dX6_checkWord_162 rfl ?_
                        exact mj_sub [0] rfl (mj_some (kj_8 false))
                      · refine mj_iconst C (v := 1) dX6_checkWord_158 rfl ?_
                        refine mj_goto C 163 dX6_checkWord_159 (by decide) ?_
                        exact mj_sub [0] rfl (mj_some (kj_8 true))
                  · refine mj_aload_n C 0 dX6_checkWord_129 (i := 0) rfl rfl ?_
                    refine mj_getM C ff_X6_22 dX6_checkWord_130 sh_1 rfl ?_
                    refine mj_getI C ff_X6_87 dX6_checkWord_133 (cn_o (cnt_dx (h_3 1 6))) rfl ?_
                    refine mj_bipush C (v := 10) dX6_checkWord_136 rfl ?_
                    refine mj_icmp_ge C 158 dX6_checkWord_138 (by decide) ?_ ?_
                    · refine mj_iconst C (v := 1) dX6_checkWord_158 rfl ?_
                      refine mj_goto C 163 dX6_checkWord_159 (by decide) ?_
                      exact mj_sub [0] rfl (mj_some (kj_8 true))
                    · refine mj_iload_n C 1 dX6_checkWord_141 (i := 1) rfl rfl ?_
                      refine mj_bipush C (v := 116) dX6_checkWord_142 rfl ?_
                      refine mj_icmp_ne C 162 dX6_checkWord_144 (by decide) ?_ ?_
                      · refine mj_iconst C (v := 0) dX6_checkWord_162 rfl ?_
                        exact mj_sub [0] rfl (mj_some (kj_8 false))
                      · refine mj_aload_n C 0 dX6_checkWord_147 (i := 0) rfl rfl ?_
                        refine mj_getM C ff_X6_22 dX6_checkWord_148 sh_1 rfl ?_
                        refine mj_getI C ff_X6_90 dX6_checkWord_151 (cn_o (cnt_dx (h_3 1 6))) rfl ?_
                        refine mj_iconst C (v := 5) dX6_checkWord_154 rfl ?_
                        refine mj_icmp_lt C 162 dX6_checkWord_155 (by decide) ?_ ?_
                        · refine mj_iconst C (v := 0) dX6_checkWord_162 rfl ?_
                          exact mj_sub [0] rfl (mj_some (kj_8 false))
                        · refine mj_iconst C (v := 1) dX6_checkWord_158 rfl ?_
                          refine mj_goto C 163 dX6_checkWord_159 (by decide) ?_
                          exact mj_sub [0] rfl (mj_some (kj_8 true))
                · refine mj_aload_n C 0 dX6_checkWord_111 (i := 0) rfl rfl ?_
                  refine mj_getM C ff_X6_22 dX6_checkWord_112 sh_1 rfl ?_
                  refine mj_getI C ff_X6_84 dX6_checkWord_115 (cn_o (cnt_dx (h_3 1 6))) rfl ?_
                  refine mj_bipush C (v := 10) dX6_checkWord_118 rfl ?_
                  refine mj_icmp_ge C 158 dX6_checkWord_120 (by decide) ?_ ?_
                  · refine mj_iconst C (v := 1) dX6_checkWord_158 rfl ?_
                    refine mj_goto C 163 dX6_checkWord_159 (by decide) ?_
                    exact mj_sub [0] rfl (mj_some (kj_8 true))
                  · refine mj_iload_n C 1 dX6_checkWord_123 (i := 1) rfl rfl ?_
                    refine mj_bipush C (v := 100) dX6_checkWord_124 rfl ?_
                    refine mj_icmp_ne C 141 dX6_checkWord_126 (by decide) ?_ ?_
                    · refine mj_iload_n C 1 dX6_checkWord_141 (i := 1) rfl rfl ?_
                      refine mj_bipush C (v := 116) dX6_checkWord_142 rfl ?_
                      refine mj_icmp_ne C 162 dX6_checkWord_144 (by decide) ?_ ?_
                      · refine mj_iconst C (v := 0) dX6_checkWord_162 rfl ?_
                        exact mj_sub [0] rfl (mj_some (kj_8 false))
                      · refine mj_aload_n C 0 dX6_checkWord_147 (i := 0) rfl rfl ?_
                        refine mj_getM C ff_X6_22 dX6_checkWord_148 sh_1 rfl ?_
                        refine mj_getI C ff_X6_90 dX6_checkWord_151 (cn_o (cnt_dx (h_3 1 6))) rfl ?_
                        refine mj_iconst C (v := 5) dX6_checkWord_154 rfl ?_
                        refine mj_icmp_lt C 162 dX6_checkWord_155 (by decide) ?_ ?_
                        · refine mj_iconst C (v := 0) dX6_checkWord_162 rfl ?_
                          exact mj_sub [0] rfl (mj_some (kj_8 false))
                        · refine mj_iconst C (v := 1) dX6_checkWord_158 rfl ?_
                          refine mj_goto C 163 dX6_checkWord_159 (by decide) ?_
                          exact mj_sub [0] rfl (mj_some (kj_8 true))
                    · refine mj_aload_n C 0 dX6_checkWord_129 (i := 0) rfl rfl ?_
                      refine mj_getM C ff_X6_22 dX6_checkWord_130 sh_1 rfl ?_
                      refine mj_getI C ff_X6_87 dX6_checkWord_133 (cn_o (cnt_dx (h_3 1 6))) rfl ?_
                      refine mj_bipush C (v := 10) dX6_checkWord_136 rfl ?_
                      refine mj_icmp_ge C 158 dX6_checkWord_138 (by decide) ?_ ?_
                      · refine mj_iconst C (v := 1) dX6_checkWord_158 rfl ?_
                        refine mj_goto C 163 dX6_checkWord_159 (by decide) ?_
                        exact mj_sub [0] rfl (mj_some (kj_8 true))
                      · refine mj_iload_n C 1 dX6_checkWord_141 (i := 1) rfl rfl ?_
                        refine mj_bipush C (v := 116) dX6_checkWord_142 rfl ?_
                        refine mj_icmp_ne C 162 dX6_checkWord_144 (by decide) ?_ ?_
                        · refine mj_iconst C (v := 0) dX6_checkWord_162 rfl ?_
                          exact mj_sub [0] rfl (mj_some (kj_8 false))
                        · refine mj_aload_n C 0 dX6_checkWord_147 (i := 0) rfl rfl ?_
                          refine mj_getM C ff_X6_22 dX6_checkWord_148 sh_1 rfl ?_
                          refine mj_getI C ff_X6_90 dX6_checkWord_151 (cn_o (cnt_dx (h_3 1 6))) rfl ?_
                          refine mj_iconst C (v := 5) dX6_checkWord_154 rfl ?_
                          refine mj_icmp_lt C 162 dX6_checkWord_155 (by decide) ?_ ?_
                          · refine mj_iconst C (v := 0) dX6_checkWord_162 rfl ?_
                            exact mj_sub [0] rfl (mj_some (kj_8 false))
                          · refine mj_iconst C (v := 1) dX6_checkWord_158 rfl ?_
                            refine mj_goto C 163 dX6_checkWord_159 (by decide) ?_
                            exact mj_sub [0] rfl (mj_some (kj_8 true))
      · refine mj_istore_n C [(3, .int (md_bi v_7)), (0, rf K 1)] dX6_checkWord_163 (i := 3) rfl (by decide) rfl ?_
        refine mj_iload_n C 0 dX6_checkWord_164 (i := 3) rfl rfl ?_
        refine mj_phi1 177 (fun (h_9 : Mm) => []) (fun (h_9 : Mm) => []) (fun (h_9 : Mm) => h_9) (fun P' kj_10 => ?_) (fun h_9 => ?_)
        · refine mj_b_eq C 177 dX6_checkWord_165 (by decide) ?_ ?_
          · exact mj_sub [] rfl (mj_some (kj_10 h_3))
          · refine mj_aload_n C 1 dX6_checkWord_168 (i := 0) rfl rfl ?_
            refine mj_iconst C (v := 3) dX6_checkWord_169 rfl ?_
            refine mj_aload_n C 1 dX6_checkWord_170 (i := 0) rfl rfl ?_
            refine mj_getI C ff_X6_32 dX6_checkWord_171 sh_1 rfl ?_
            refine mj_vM C my_X6_findFault mv_X6_77 dX6_checkWord_174 sh_1 rfl (fun a hF => ctX6_findFault K h_3 (3 : Int32) (h_3 1 4)  hF) (by decide) (by decide) rfl rfl (Nat.le_of_ble_eq_true rfl) (fun h_11 => ?_)
            exact mj_sub [] rfl (mj_some (kj_10 h_11))
        · exact mj_rV C N dX6_checkWord_177
noncomputable def fX6_isFigure (h : Mm) (l0 : Int32) : Option (Bool) := md_bd ((if l0 < (48 : Int32) then some false else (if (57 : Int32) < l0 then some false else some true))) (fun (v_1 : Bool) => some v_1)
set_option maxRecDepth 100000 in
set_option maxHeartbeats 4000000 in
theorem ctX6_isFigure (K : Kx) (h : Mm) (l0 : Int32) {a : Bool} (hF : fX6_isFigure h l0 = some a) : Mt K yX6_isFigure cX6_isFigure 1 (some .boolean) 0 0 SHc [.int l0] h (some (.int (md_bi a))) h := by
  refine Mt.of hF [(0, .int l0)] (by decide) (Nat.le_of_ble_eq_true rfl) rfl (fun Y C N => ?_)
  have C : Cx K Y (0, 0) cX6_isFigure RX6 1 0 0 := C
  unfold fX6_isFigure
  refine mj_iload_n C 0 dX6_isFigure_0 (i := 0) rfl rfl ?_
  refine mj_bipush C (v := 48) dX6_isFigure_1 rfl ?_
  refine mj_phi1 17 (fun (v_1 : Bool) => []) (fun (v_1 : Bool) => [.int (md_bi v_1)]) (fun (v_1 : Bool) => h) (fun P' kj_2 => ?_) (fun v_1 => ?_)
  · refine mj_icmp_lt C 16 dX6_isFigure_3 (by decide) ?_ ?_
    · refine mj_iconst C (v := 0) dX6_isFigure_16 rfl ?_
      exact mj_sub [] rfl (mj_some (kj_2 false))
    · refine mj_iload_n C 0 dX6_isFigure_6 (i := 0) rfl rfl ?_
      refine mj_bipush C (v := 57) dX6_isFigure_7 rfl ?_
      refine mj_icmp_gt C 16 dX6_isFigure_9 (by decide) ?_ ?_
      · refine mj_iconst C (v := 0) dX6_isFigure_16 rfl ?_
        exact mj_sub [] rfl (mj_some (kj_2 false))
      · refine mj_iconst C (v := 1) dX6_isFigure_12 rfl ?_
        refine mj_goto C 17 dX6_isFigure_13 (by decide) ?_
        exact mj_sub [] rfl (mj_some (kj_2 true))
  · exact mj_rZ C N dX6_isFigure_17
noncomputable def fX6_readNumber_14 : Nat → Mm → Int32 → Int32 → Int32 → Option (Int32 × Mm)
  | 0, _, _, _, _ => none
  | n + 1, h, l1, l2, l3 => (if (h 1 1) ≤ (h 1 4) then some (l3, h) else md_bd (fX6_letterHere h) (fun r_3 => md_bd (fX6_isFigure h r_3) (fun r_4 => (if r_4 = true then md_bd (fX6_letterHere h) (fun r_5 => md_lt (if (1000 : Int32) < (((l3 * (10 : Int32)) + r_5) - (48 : Int32)) then (1000 : Int32) else (((l3 * (10 : Int32)) + r_5) - (48 : Int32))) (fun l3_6 : Int32 => md_lt (md_up h 1 4 ((h 1 4) + (1 : Int32))) (fun h_7 : Mm => fX6_readNumber_14 n h_7 l1 l2 l3_6))) else some (l3, h)))))
set_option maxRecDepth 100000 in
set_option maxHeartbeats 4000000 in
theorem lX6_readNumber_14 {K : Kx} {Y : Yx} {cs : Nat × Nat} (C : Cx K Y cs cX6_readNumber RX6 5 1 22) {P : Int32 × Mm → Prop} : ∀ (n : Nat) (h : Mm) (l1 : Int32) (l2 : Int32) (l3 : Int32), (∀ (w3 : Int32) (hw : Mm), J SHc K Y cs (P (w3, hw)) 67 [(0, rf K 1), (1, .int l1), (2, .int l2), (3, .int w3)] [] hw) → J SHc K Y cs (mj_O (fX6_readNumber_14 n h l1 l2 l3) P) 14 [(0, rf K 1), (1, .int l1), (2, .int l2), (3, .int l3)] [] h := by
  intro n
  induction n with
  | zero => intro h l1 l2 l3 kk0; exact mj_none
  | succ n ih =>
    intro h l1 l2 l3 kk0
    rw [fX6_readNumber_14]
    refine mj_aload_n C 0 dX6_readNumber_14 (i := 0) rfl rfl ?_
    refine mj_getI C ff_X6_32 dX6_readNumber_15 sh_1 rfl ?_
    refine mj_aload_n C 0 dX6_readNumber_18 (i := 0) rfl rfl ?_
    refine mj_getI C ff_X6_26 dX6_readNumber_19 sh_1 rfl ?_
    refine mj_icmp_ge C 67 dX6_readNumber_22 (by decide) ?_ ?_
    · exact mj_sub [0, 1, 2, 3] rfl (mj_some (kk0 l3 h))
    · refine mj_aload_n C 0 dX6_readNumber_25 (i := 0) rfl rfl ?_
      refine mj_vI C my_X6_letterHere mv_X6_44 dX6_readNumber_26 sh_1 rfl (fun a hF => ctX6_letterHere K h   hF) (by decide) (by decide) rfl rfl (Nat.le_of_ble_eq_true rfl) (fun r_3 => ?_)
      refine mj_sB C my_X6_isFigure ms_X6_136 dX6_readNumber_29 (fun a hF => ctX6_isFigure K h r_3  hF) (by decide) (by decide) rfl rfl (Nat.le_of_ble_eq_true rfl) (fun r_4 => ?_)
      refine mj_b_eq C 67 dX6_readNumber_32 (by decide) ?_ ?_
      · exact mj_sub [0, 1, 2, 3] rfl (mj_some (kk0 l3 h))
      · refine mj_iload_n C 3 dX6_readNumber_35 (i := 3) rfl rfl ?_
        refine mj_bipush C (v := 10) dX6_readNumber_36 rfl ?_
        refine mj_imul C dX6_readNumber_38 ?_
        refine mj_aload_n C 0 dX6_readNumber_39 (i := 0) rfl rfl ?_
        refine mj_vI C my_X6_letterHere mv_X6_44 dX6_readNumber_40 sh_1 rfl (fun a hF => ctX6_letterHere K h   hF) (by decide) (by decide) rfl rfl (Nat.le_of_ble_eq_true rfl) (fun r_5 => ?_)
        refine mj_iadd C dX6_readNumber_43 ?_
        refine mj_bipush C (v := 48) dX6_readNumber_44 rfl ?_
        refine mj_isub C dX6_readNumber_46 ?_
        refine mj_sipush C (v := 1000) dX6_readNumber_47 rfl ?_
        refine mj_mmin C ml_X6_140 mm_min.1 mm_min.2.1 mm_min.2.2 (by decide) (Nat.le_of_ble_eq_true rfl) dX6_readNumber_50 ?_
        refine mj_istore_nL C (fun l3_6 => [(3, .int l3_6), (0, rf K 1), (1, .int l1), (2, .int l2)]) dX6_readNumber_53 (i := 3) rfl (by decide) rfl (fun l3_6 => ?_)
        refine mj_aload_n C 1 dX6_readNumber_54 (i := 0) rfl rfl ?_
        refine mj_dup C dX6_readNumber_55 rfl ?_
        refine mj_getI C ff_X6_32 dX6_readNumber_56 sh_1 rfl ?_
        refine mj_iconst C (v := 1) dX6_readNumber_59 rfl ?_
        refine mj_iadd C dX6_readNumber_60 ?_
        refine mj_putL C fp_X6_32 dX6_readNumber_61 sh_1 rfl rfl rfl (fun h_7 => ?_)
        refine mj_goto C 14 dX6_readNumber_64 (by decide) ?_
        exact mj_sub [1, 2, 3, 0] rfl (ih h_7 l1 l2 l3_6 kk0)
noncomputable def fX6_readNumber (h : Mm) (l1 : Int32) (l2 : Int32) : Option (Int32 × Mm) := md_bd (fX6_skipBlanks h) (fun h_1 => md_lt (md_up h_1 1 5 (h_1 1 4)) (fun h_2 : Mm => md_b2 (fX6_readNumber_14 md_N h_2 l1 l2 (0 : Int32)) (fun (v_8 : Int32) (h_9 : Mm) => md_lt ((h_9 1 4) - (h_9 1 5)) (fun l4_10 : Int32 => md_bd ((if l4_10 = 0 then md_bd (fX6_findFault h_9 (1 : Int32) (h_9 1 5)) (fun h_13 => some h_13) else some h_9)) (fun (h_11 : Mm) => md_bd ((if (3 : Int32) < l4_10 then md_bd (fX6_findFault h_11 (2 : Int32) (h_11 1 5)) (fun h_16 => some h_16) else (if v_8 < l1 then md_bd (fX6_findFault h_11 (2 : Int32) (h_11 1 5)) (fun h_17 => some h_17) else (if v_8 ≤ l2 then some h_11 else md_bd (fX6_findFault h_11 (2 : Int32) (h_11 1 5)) (fun h_18 => some h_18))))) (fun (h_14 : Mm) => md_bd ((if (h_14 1 3) = 0 then some v_8 else some (0 : Int32))) (fun (v_19 : Int32) => some (v_19, h_14))))))))
set_option maxRecDepth 100000 in
set_option maxHeartbeats 4000000 in
theorem ctX6_readNumber (K : Kx) (h : Mm) (l1 : Int32) (l2 : Int32) {a : Int32 × Mm} (hF : fX6_readNumber h l1 l2 = some a) : Mt K yX6_readNumber cX6_readNumber 5 (some .int) 1 22 SHc [rf K 1, .int l1, .int l2] h (some (.int a.1)) a.2 := by
  refine Mt.of hF [(0, rf K 1), (1, .int l1), (2, .int l2)] (by decide) (Nat.le_of_ble_eq_true rfl) rfl (fun Y C N => ?_)
  have C : Cx K Y (0, 0) cX6_readNumber RX6 5 1 22 := C
  unfold fX6_readNumber
  refine mj_aload_n C 0 dX6_readNumber_0 (i := 0) rfl rfl ?_
  refine mj_vM C my_X6_skipBlanks mv_X6_38 dX6_readNumber_1 sh_1 rfl (fun a hF => ctX6_skipBlanks K h   hF) (by decide) (by decide) rfl rfl (Nat.le_of_ble_eq_true rfl) (fun h_1 => ?_)
  refine mj_aload_n C 0 dX6_readNumber_4 (i := 0) rfl rfl ?_
  refine mj_aload_n C 0 dX6_readNumber_5 (i := 0) rfl rfl ?_
  refine mj_getI C ff_X6_32 dX6_readNumber_6 sh_1 rfl ?_
  refine mj_putL C fp_X6_109 dX6_readNumber_9 sh_1 rfl rfl rfl (fun h_2 => ?_)
  refine mj_iconst C (v := 0) dX6_readNumber_12 rfl ?_
  refine mj_istore_n C [(3, .int (0 : Int32)), (0, rf K 1), (1, .int l1), (2, .int l2)] dX6_readNumber_13 (i := 3) rfl (by decide) rfl ?_
  refine mj_phi2 67 (fun (v_8 : Int32) (h_9 : Mm) => [(0, rf K 1), (1, .int l1), (2, .int l2), (3, .int v_8)]) (fun (v_8 : Int32) (h_9 : Mm) => []) (fun (v_8 : Int32) (h_9 : Mm) => h_9) (fun P' kj_21 => mj_sub [1, 2, 3, 0] rfl (lX6_readNumber_14 C md_N h_2 l1 l2 (0 : Int32) kj_21)) (fun v_8 h_9 => ?_)
  refine mj_aload_n C 0 dX6_readNumber_67 (i := 0) rfl rfl ?_
  refine mj_getI C ff_X6_32 dX6_readNumber_68 sh_1 rfl ?_
  refine mj_aload_n C 0 dX6_readNumber_71 (i := 0) rfl rfl ?_
  refine mj_getI C ff_X6_109 dX6_readNumber_72 sh_1 rfl ?_
  refine mj_isub C dX6_readNumber_75 ?_
  refine mj_istoreL C (fun l4_10 => [(4, .int l4_10), (0, rf K 1), (1, .int l1), (2, .int l2), (3, .int v_8)]) dX6_readNumber_76 (by decide) rfl (fun l4_10 => ?_)
  refine mj_iload C 0 dX6_readNumber_78 rfl ?_
  refine mj_phi1 92 (fun (h_11 : Mm) => [(0, rf K 1), (1, .int l1), (2, .int l2), (3, .int v_8), (4, .int l4_10)]) (fun (h_11 : Mm) => []) (fun (h_11 : Mm) => h_11) (fun P' kj_12 => ?_) (fun h_11 => ?_)
  · refine mj_if_ne C 92 dX6_readNumber_80 (by decide) ?_ ?_
    · exact mj_sub [1, 2, 3, 4, 0] rfl (mj_some (kj_12 h_9))
    · refine mj_aload_n C 1 dX6_readNumber_83 (i := 0) rfl rfl ?_
      refine mj_iconst C (v := 1) dX6_readNumber_84 rfl ?_
      refine mj_aload_n C 1 dX6_readNumber_85 (i := 0) rfl rfl ?_
      refine mj_getI C ff_X6_109 dX6_readNumber_86 sh_1 rfl ?_
      refine mj_vM C my_X6_findFault mv_X6_77 dX6_readNumber_89 sh_1 rfl (fun a hF => ctX6_findFault K h_9 (1 : Int32) (h_9 1 5)  hF) (by decide) (by decide) rfl rfl (Nat.le_of_ble_eq_true rfl) (fun h_13 => ?_)
      exact mj_sub [1, 2, 3, 4, 0] rfl (mj_some (kj_12 h_13))
  · refine mj_iload C 4 dX6_readNumber_92 rfl ?_
    refine mj_iconst C (v := 3) dX6_readNumber_94 rfl ?_
    refine mj_phi1 117 (fun (h_14 : Mm) => [(0, rf K 1), (3, .int v_8)]) (fun (h_14 : Mm) => []) (fun (h_14 : Mm) => h_14) (fun P' kj_15 => ?_) (fun h_14 => ?_)
    · refine mj_icmp_gt C 108 dX6_readNumber_95 (by decide) ?_ ?_
      · refine mj_aload_n C 0 dX6_readNumber_108 (i := 0) rfl rfl ?_
        refine mj_iconst C (v := 2) dX6_readNumber_109 rfl ?_
        refine mj_aload_n C 0 dX6_readNumber_110 (i := 0) rfl rfl ?_
        refine mj_getI C ff_X6_109 dX6_readNumber_111 sh_1 rfl ?_
        refine mj_vM C my_X6_findFault mv_X6_77 dX6_readNumber_114 sh_1 rfl (fun a hF => ctX6_findFault K h_11 (2 : Int32) (h_11 1 5)  hF) (by decide) (by decide) rfl rfl (Nat.le_of_ble_eq_true rfl) (fun h_16 => ?_)
        exact mj_sub [0, 3] rfl (mj_some (kj_15 h_16))
      · refine mj_iload_n C 3 dX6_readNumber_98 (i := 3) rfl rfl ?_
        refine mj_iload_n C 1 dX6_readNumber_99 (i := 1) rfl rfl ?_
        refine mj_icmp_lt C 108 dX6_readNumber_100 (by decide) ?_ ?_
        · refine mj_aload_n C 0 dX6_readNumber_108 (i := 0) rfl rfl ?_
          refine mj_iconst C (v := 2) dX6_readNumber_109 rfl ?_
          refine mj_aload_n C 0 dX6_readNumber_110 (i := 0) rfl rfl ?_
          refine mj_getI C ff_X6_109 dX6_readNumber_111 sh_1 rfl ?_
          refine mj_vM C my_X6_findFault mv_X6_77 dX6_readNumber_114 sh_1 rfl (fun a hF => ctX6_findFault K h_11 (2 : Int32) (h_11 1 5)  hF) (by decide) (by decide) rfl rfl (Nat.le_of_ble_eq_true rfl) (fun h_17 => ?_)
          exact mj_sub [0, 3] rfl (mj_some (kj_15 h_17))
        · refine mj_iload_n C 3 dX6_readNumber_103 (i := 3) rfl rfl ?_
          refine mj_iload_n C 2 dX6_readNumber_104 (i := 2) rfl rfl ?_
          refine mj_icmp_le C 117 dX6_readNumber_105 (by decide) ?_ ?_
          · exact mj_sub [0, 3] rfl (mj_some (kj_15 h_11))
          · refine mj_aload_n C 0 dX6_readNumber_108 (i := 0) rfl rfl ?_
            refine mj_iconst C (v := 2) dX6_readNumber_109 rfl ?_
            refine mj_aload_n C 0 dX6_readNumber_110 (i := 0) rfl rfl ?_
            refine mj_getI C ff_X6_109 dX6_readNumber_111 sh_1 rfl ?_
            refine mj_vM C my_X6_findFault mv_X6_77 dX6_readNumber_114 sh_1 rfl (fun a hF => ctX6_findFault K h_11 (2 : Int32) (h_11 1 5)  hF) (by decide) (by decide) rfl rfl (Nat.le_of_ble_eq_true rfl) (fun h_18 => ?_)
            exact mj_sub [0, 3] rfl (mj_some (kj_15 h_18))
    · refine mj_aload_n C 0 dX6_readNumber_117 (i := 0) rfl rfl ?_
      refine mj_getI C ff_X6_35 dX6_readNumber_118 sh_1 rfl ?_
      refine mj_phi1 129 (fun (v_19 : Int32) => []) (fun (v_19 : Int32) => [.int v_19]) (fun (v_19 : Int32) => h_14) (fun P' kj_20 => ?_) (fun v_19 => ?_)
      · refine mj_if_ne C 128 dX6_readNumber_121 (by decide) ?_ ?_
        · refine mj_iconst C (v := 0) dX6_readNumber_128 rfl ?_
          exact mj_sub [] rfl (mj_some (kj_20 (0 : Int32)))
        · refine mj_iload_n C 1 dX6_readNumber_124 (i := 3) rfl rfl ?_
          refine mj_goto C 129 dX6_readNumber_125 (by decide) ?_
          exact mj_sub [] rfl (mj_some (kj_20 v_8))
      · exact mj_rIM C N dX6_readNumber_129
noncomputable def fX6_readGate (h : Mm) : Option (Mm) := md_b2 (fX6_readNumber h (1 : Int32) (999 : Int32)) (fun r_1 h_2 => md_lt (md_up h_2 (md_dx (h 1 6)) 1 r_1) (fun h_3 : Mm => md_b2 (fX6_readNumber h_3 (0 : Int32) (99 : Int32)) (fun r_4 h_5 => md_lt (md_up h_5 (md_dx (h_3 1 6)) 2 r_4) (fun h_6 : Mm => md_lt (md_up h_6 (md_dx (h_6 1 6)) 0 (1 : Int32)) (fun h_7 : Mm => some h_7)))))
set_option maxRecDepth 100000 in
set_option maxHeartbeats 4000000 in
theorem ctX6_readGate (K : Kx) (h : Mm) {a : Mm} (hF : fX6_readGate h = some a) : Mt K yX6_readGate cX6_readGate 1 none 2 46 SHc [rf K 1] h none a := by
  refine Mt.of hF [(0, rf K 1)] (by decide) (Nat.le_of_ble_eq_true rfl) rfl (fun Y C N => ?_)
  have C : Cx K Y (0, 0) cX6_readGate RX6 1 2 46 := C
  unfold fX6_readGate
  refine mj_aload_n C 0 dX6_readGate_0 (i := 0) rfl rfl ?_
  refine mj_getM C ff_X6_22 dX6_readGate_1 sh_1 rfl ?_
  refine mj_aload_n C 0 dX6_readGate_4 (i := 0) rfl rfl ?_
  refine mj_iconst C (v := 1) dX6_readGate_5 rfl ?_
  refine mj_sipush C (v := 999) dX6_readGate_6 rfl ?_
  refine mj_vIM C my_X6_readNumber mv_X6_93 dX6_readGate_9 sh_1 rfl (fun a hF => ctX6_readNumber K h (1 : Int32) (999 : Int32)  hF) (by decide) (by decide) rfl rfl (Nat.le_of_ble_eq_true rfl) (fun r_1 h_2 => ?_)
  refine mj_putL C fp_X6_97 dX6_readGate_12 (cn_o (cnt_dx (h 1 6))) rfl rfl rfl (fun h_3 => ?_)
  refine mj_aload_n C 0 dX6_readGate_15 (i := 0) rfl rfl ?_
  refine mj_getM C ff_X6_22 dX6_readGate_16 sh_1 rfl ?_
  refine mj_aload_n C 0 dX6_readGate_19 (i := 0) rfl rfl ?_
  refine mj_iconst C (v := 0) dX6_readGate_20 rfl ?_
  refine mj_bipush C (v := 99) dX6_readGate_21 rfl ?_
  refine mj_vIM C my_X6_readNumber mv_X6_93 dX6_readGate_23 sh_1 rfl (fun a hF => ctX6_readNumber K h_3 (0 : Int32) (99 : Int32)  hF) (by decide) (by decide) rfl rfl (Nat.le_of_ble_eq_true rfl) (fun r_4 h_5 => ?_)
  refine mj_putL C fp_X6_100 dX6_readGate_26 (cn_o (cnt_dx (h_3 1 6))) rfl rfl rfl (fun h_6 => ?_)
  refine mj_aload_n C 0 dX6_readGate_29 (i := 0) rfl rfl ?_
  refine mj_getM C ff_X6_22 dX6_readGate_30 sh_1 rfl ?_
  refine mj_iconst C (v := 1) dX6_readGate_33 rfl ?_
  refine mj_putL C fp_X6_73 dX6_readGate_34 (cn_o (cnt_dx (h_6 1 6))) rfl rfl rfl (fun h_7 => ?_)
  exact mj_rV C N dX6_readGate_37
noncomputable def fX6_readIdea (h : Mm) : Option (Mm) := md_b2 (fX6_readNumber h (1 : Int32) (99 : Int32)) (fun r_1 h_2 => md_bd ((if (h_2 1 3) = 0 then md_ck (md_in (h_2 (md_dx (h_2 1 6)) 3) 8) (md_lt (md_up h_2 ((md_dx (h_2 1 6)) + 1) ((h_2 (md_dx (h_2 1 6)) 3)).toNatClampNeg r_1) (fun h_5 : Mm => md_lt (md_up h_5 (md_dx (h_5 1 6)) 3 ((h_5 (md_dx (h_5 1 6)) 3) + (1 : Int32))) (fun h_6 : Mm => some h_6))) else some h_2)) (fun (h_3 : Mm) => some h_3))
set_option maxRecDepth 100000 in
set_option maxHeartbeats 4000000 in
theorem ctX6_readIdea (K : Kx) (h : Mm) {a : Mm} (hF : fX6_readIdea h = some a) : Mt K yX6_readIdea cX6_readIdea 2 none 2 46 SHc [rf K 1] h none a := by
  refine Mt.of hF [(0, rf K 1)] (by decide) (Nat.le_of_ble_eq_true rfl) rfl (fun Y C N => ?_)
  have C : Cx K Y (0, 0) cX6_readIdea RX6 2 2 46 := C
  unfold fX6_readIdea
  refine mj_aload_n C 0 dX6_readIdea_0 (i := 0) rfl rfl ?_
  refine mj_iconst C (v := 1) dX6_readIdea_1 rfl ?_
  refine mj_bipush C (v := 99) dX6_readIdea_2 rfl ?_
  refine mj_vIM C my_X6_readNumber mv_X6_93 dX6_readIdea_4 sh_1 rfl (fun a hF => ctX6_readNumber K h (1 : Int32) (99 : Int32)  hF) (by decide) (by decide) rfl rfl (Nat.le_of_ble_eq_true rfl) (fun r_1 h_2 => ?_)
  refine mj_istore_n C [(1, .int r_1), (0, rf K 1)] dX6_readIdea_7 (i := 1) rfl (by decide) rfl ?_
  refine mj_aload_n C 1 dX6_readIdea_8 (i := 0) rfl rfl ?_
  refine mj_getI C ff_X6_35 dX6_readIdea_9 sh_1 rfl ?_
  refine mj_phi1 44 (fun (h_3 : Mm) => []) (fun (h_3 : Mm) => []) (fun (h_3 : Mm) => h_3) (fun P' kj_4 => ?_) (fun h_3 => ?_)
  · refine mj_if_ne C 44 dX6_readIdea_12 (by decide) ?_ ?_
    · exact mj_sub [] rfl (mj_some (kj_4 h_2))
    · refine mj_aload_n C 1 dX6_readIdea_15 (i := 0) rfl rfl ?_
      refine mj_getM C ff_X6_22 dX6_readIdea_16 sh_1 rfl ?_
      refine mj_getR C ff_X6_103 dX6_readIdea_19 (cn_o (cnt_dx (h_2 1 6))) rfl ?_
      refine mj_aload_n C 1 dX6_readIdea_22 (i := 0) rfl rfl ?_
      refine mj_getM C ff_X6_22 dX6_readIdea_23 sh_1 rfl ?_
      refine mj_getI C ff_X6_81 dX6_readIdea_26 (cn_o (cnt_dx (h_2 1 6))) rfl ?_
      refine mj_iload_n C 0 dX6_readIdea_29 (i := 1) rfl rfl ?_
      refine mj_iast C dX6_readIdea_30 (cn_4 (cnt_dx (h_2 1 6))) (fun h_5 => ?_)
      refine mj_aload_n C 1 dX6_readIdea_31 (i := 0) rfl rfl ?_
      refine mj_getM C ff_X6_22 dX6_readIdea_32 sh_1 rfl ?_
      refine mj_dup C dX6_readIdea_35 rfl ?_
      refine mj_getI C ff_X6_81 dX6_readIdea_36 (cn_o (cnt_dx (h_5 1 6))) rfl ?_
      refine mj_iconst C (v := 1) dX6_readIdea_39 rfl ?_
      refine mj_iadd C dX6_readIdea_40 ?_
      refine mj_putL C fp_X6_81 dX6_readIdea_41 (cn_o (cnt_dx (h_5 1 6))) rfl rfl rfl (fun h_6 => ?_)
      exact mj_sub [] rfl (mj_some (kj_4 h_6))
  · exact mj_rV C N dX6_readIdea_44
noncomputable def fX6_readToldIdea (h : Mm) : Option (Int32 × Mm) := md_b2 (fX6_readNumber h (0 : Int32) ((h (md_dx (h 1 6)) 3) - (1 : Int32))) (fun r_1 h_2 => some (r_1, h_2))
set_option maxRecDepth 100000 in
set_option maxHeartbeats 4000000 in
theorem ctX6_readToldIdea (K : Kx) (h : Mm) {a : Int32 × Mm} (hF : fX6_readToldIdea h = some a) : Mt K yX6_readToldIdea cX6_readToldIdea 1 (some .int) 2 46 SHc [rf K 1] h (some (.int a.1)) a.2 := by
  refine Mt.of hF [(0, rf K 1)] (by decide) (Nat.le_of_ble_eq_true rfl) rfl (fun Y C N => ?_)
  have C : Cx K Y (0, 0) cX6_readToldIdea RX6 1 2 46 := C
  unfold fX6_readToldIdea
  refine mj_aload_n C 0 dX6_readToldIdea_0 (i := 0) rfl rfl ?_
  refine mj_iconst C (v := 0) dX6_readToldIdea_1 rfl ?_
  refine mj_aload_n C 0 dX6_readToldIdea_2 (i := 0) rfl rfl ?_
  refine mj_getM C ff_X6_22 dX6_readToldIdea_3 sh_1 rfl ?_
  refine mj_getI C ff_X6_81 dX6_readToldIdea_6 (cn_o (cnt_dx (h 1 6))) rfl ?_
  refine mj_iconst C (v := 1) dX6_readToldIdea_9 rfl ?_
  refine mj_isub C dX6_readToldIdea_10 ?_
  refine mj_vIM C my_X6_readNumber mv_X6_93 dX6_readToldIdea_11 sh_1 rfl (fun a hF => ctX6_readNumber K h (0 : Int32) ((h (md_dx (h 1 6)) 3) - (1 : Int32))  hF) (by decide) (by decide) rfl rfl (Nat.le_of_ble_eq_true rfl) (fun r_1 h_2 => ?_)
  exact mj_rIM C N dX6_readToldIdea_14
noncomputable def fX6_readJoining (h : Mm) : Option (Mm) := md_b2 (fX6_readToldIdea h) (fun r_1 h_2 => md_b2 (fX6_readToldIdea h_2) (fun r_3 h_4 => md_b2 (fX6_readToldIdea h_4) (fun r_5 h_6 => md_bd ((if r_5 = r_1 then md_bd (fX6_findFault h_6 (4 : Int32) (h_6 1 5)) (fun h_9 => some h_9) else (if r_5 = r_3 then md_bd (fX6_findFault h_6 (4 : Int32) (h_6 1 5)) (fun h_10 => some h_10) else some h_6))) (fun (h_7 : Mm) => md_bd ((if (h_7 1 3) = 0 then md_ck (md_in (h_7 (md_dx (h_7 1 6)) 5) 10) (md_lt (md_up h_7 ((md_dx (h_7 1 6)) + 2) ((h_7 (md_dx (h_7 1 6)) 5)).toNatClampNeg r_1) (fun h_13 : Mm => md_ck (md_in (h_13 (md_dx (h_13 1 6)) 5) 10) (md_lt (md_up h_13 ((md_dx (h_13 1 6)) + 3) ((h_13 (md_dx (h_13 1 6)) 5)).toNatClampNeg r_3) (fun h_14 : Mm => md_ck (md_in (h_14 (md_dx (h_14 1 6)) 5) 10) (md_lt (md_up h_14 ((md_dx (h_14 1 6)) + 4) ((h_14 (md_dx (h_14 1 6)) 5)).toNatClampNeg r_5) (fun h_15 : Mm => md_lt (md_up h_15 (md_dx (h_15 1 6)) 5 ((h_15 (md_dx (h_15 1 6)) 5) + (1 : Int32))) (fun h_16 : Mm => some h_16))))))) else some h_7)) (fun (h_11 : Mm) => some h_11)))))
set_option maxRecDepth 100000 in
set_option maxHeartbeats 4000000 in
theorem ctX6_readJoining (K : Kx) (h : Mm) {a : Mm} (hF : fX6_readJoining h = some a) : Mt K yX6_readJoining cX6_readJoining 4 none 3 66 SHc [rf K 1] h none a := by
  refine Mt.of hF [(0, rf K 1)] (by decide) (Nat.le_of_ble_eq_true rfl) rfl (fun Y C N => ?_)
  have C : Cx K Y (0, 0) cX6_readJoining RX6 4 3 66 := C
  unfold fX6_readJoining
  refine mj_aload_n C 0 dX6_readJoining_0 (i := 0) rfl rfl ?_
  refine mj_vIM C my_X6_readToldIdea mv_X6_106 dX6_readJoining_1 sh_1 rfl (fun a hF => ctX6_readToldIdea K h   hF) (by decide) (by decide) rfl rfl (Nat.le_of_ble_eq_true rfl) (fun r_1 h_2 => ?_)
  refine mj_istore_n C [(1, .int r_1), (0, rf K 1)] dX6_readJoining_4 (i := 1) rfl (by decide) rfl ?_
  refine mj_aload_n C 1 dX6_readJoining_5 (i := 0) rfl rfl ?_
  refine mj_vIM C my_X6_readToldIdea mv_X6_106 dX6_readJoining_6 sh_1 rfl (fun a hF => ctX6_readToldIdea K h_2   hF) (by decide) (by decide) rfl rfl (Nat.le_of_ble_eq_true rfl) (fun r_3 h_4 => ?_)
  refine mj_istore_n C [(2, .int r_3), (1, .int r_1), (0, rf K 1)] dX6_readJoining_9 (i := 2) rfl (by decide) rfl ?_
  refine mj_aload_n C 2 dX6_readJoining_10 (i := 0) rfl rfl ?_
  refine mj_vIM C my_X6_readToldIdea mv_X6_106 dX6_readJoining_11 sh_1 rfl (fun a hF => ctX6_readToldIdea K h_4   hF) (by decide) (by decide) rfl rfl (Nat.le_of_ble_eq_true rfl) (fun r_5 h_6 => ?_)
  refine mj_istore_n C [(3, .int r_5), (2, .int r_3), (1, .int r_1), (0, rf K 1)] dX6_readJoining_14 (i := 3) rfl (by decide) rfl ?_
  refine mj_iload_n C 0 dX6_readJoining_15 (i := 3) rfl rfl ?_
  refine mj_iload_n C 2 dX6_readJoining_16 (i := 1) rfl rfl ?_
  refine mj_phi1 34 (fun (h_7 : Mm) => [(0, rf K 1), (1, .int r_1), (2, .int r_3), (3, .int r_5)]) (fun (h_7 : Mm) => []) (fun (h_7 : Mm) => h_7) (fun P' kj_8 => ?_) (fun h_7 => ?_)
  · refine mj_icmp_eq C 25 dX6_readJoining_17 (by decide) ?_ ?_
    · refine mj_aload_n C 3 dX6_readJoining_25 (i := 0) rfl rfl ?_
      refine mj_iconst C (v := 4) dX6_readJoining_26 rfl ?_
      refine mj_aload_n C 3 dX6_readJoining_27 (i := 0) rfl rfl ?_
      refine mj_getI C ff_X6_109 dX6_readJoining_28 sh_1 rfl ?_
      refine mj_vM C my_X6_findFault mv_X6_77 dX6_readJoining_31 sh_1 rfl (fun a hF => ctX6_findFault K h_6 (4 : Int32) (h_6 1 5)  hF) (by decide) (by decide) rfl rfl (Nat.le_of_ble_eq_true rfl) (fun h_9 => ?_)
      exact mj_sub [3, 2, 1, 0] rfl (mj_some (kj_8 h_9))
    · refine mj_iload_n C 0 dX6_readJoining_20 (i := 3) rfl rfl ?_
      refine mj_iload_n C 1 dX6_readJoining_21 (i := 2) rfl rfl ?_
      refine mj_icmp_ne C 34 dX6_readJoining_22 (by decide) ?_ ?_
      · exact mj_sub [3, 2, 1, 0] rfl (mj_some (kj_8 h_6))
      · refine mj_aload_n C 3 dX6_readJoining_25 (i := 0) rfl rfl ?_
        refine mj_iconst C (v := 4) dX6_readJoining_26 rfl ?_
        refine mj_aload_n C 3 dX6_readJoining_27 (i := 0) rfl rfl ?_
        refine mj_getI C ff_X6_109 dX6_readJoining_28 sh_1 rfl ?_
        refine mj_vM C my_X6_findFault mv_X6_77 dX6_readJoining_31 sh_1 rfl (fun a hF => ctX6_findFault K h_6 (4 : Int32) (h_6 1 5)  hF) (by decide) (by decide) rfl rfl (Nat.le_of_ble_eq_true rfl) (fun h_10 => ?_)
        exact mj_sub [3, 2, 1, 0] rfl (mj_some (kj_8 h_10))
  · refine mj_aload_n C 0 dX6_readJoining_34 (i := 0) rfl rfl ?_
    refine mj_getI C ff_X6_35 dX6_readJoining_35 sh_1 rfl ?_
    refine mj_phi1 102 (fun (h_11 : Mm) => []) (fun (h_11 : Mm) => []) (fun (h_11 : Mm) => h_11) (fun P' kj_12 => ?_) (fun h_11 => ?_)
    · refine mj_if_ne C 102 dX6_readJoining_38 (by decide) ?_ ?_
      · exact mj_sub [] rfl (mj_some (kj_12 h_7))
      · refine mj_aload_n C 0 dX6_readJoining_41 (i := 0) rfl rfl ?_
        refine mj_getM C ff_X6_22 dX6_readJoining_42 sh_1 rfl ?_
        refine mj_getR C ff_X6_112 dX6_readJoining_45 (cn_o (cnt_dx (h_7 1 6))) rfl ?_
        refine mj_aload_n C 0 dX6_readJoining_48 (i := 0) rfl rfl ?_
        refine mj_getM C ff_X6_22 dX6_readJoining_49 sh_1 rfl ?_
        refine mj_getI C ff_X6_84 dX6_readJoining_52 (cn_o (cnt_dx (h_7 1 6))) rfl ?_
        refine mj_iload_n C 1 dX6_readJoining_55 (i := 1) rfl rfl ?_
        refine mj_iast C dX6_readJoining_56 (cn_6 (cnt_dx (h_7 1 6))) (fun h_13 => ?_)
        refine mj_aload_n C 0 dX6_readJoining_57 (i := 0) rfl rfl ?_
        refine mj_getM C ff_X6_22 dX6_readJoining_58 sh_1 rfl ?_
        refine mj_getR C ff_X6_115 dX6_readJoining_61 (cn_o (cnt_dx (h_13 1 6))) rfl ?_
        refine mj_aload_n C 0 dX6_readJoining_64 (i := 0) rfl rfl ?_
        refine mj_getM C ff_X6_22 dX6_readJoining_65 sh_1 rfl ?_
        refine mj_getI C ff_X6_84 dX6_readJoining_68 (cn_o (cnt_dx (h_13 1 6))) rfl ?_
        refine mj_iload_n C 2 dX6_readJoining_71 (i := 2) rfl rfl ?_
        refine mj_iast C dX6_readJoining_72 (cn_7 (cnt_dx (h_13 1 6))) (fun h_14 => ?_)
        refine mj_aload_n C 0 dX6_readJoining_73 (i := 0) rfl rfl ?_
        refine mj_getM C ff_X6_22 dX6_readJoining_74 sh_1 rfl ?_
        refine mj_getR C ff_X6_118 dX6_readJoining_77 (cn_o (cnt_dx (h_14 1 6))) rfl ?_
        refine mj_aload_n C 0 dX6_readJoining_80 (i := 0) rfl rfl ?_
        refine mj_getM C ff_X6_22 dX6_readJoining_81 sh_1 rfl ?_
        refine mj_getI C ff_X6_84 dX6_readJoining_84 (cn_o (cnt_dx (h_14 1 6))) rfl ?_
        refine mj_iload_n C 3 dX6_readJoining_87 (i := 3) rfl rfl ?_
        refine mj_iast C dX6_readJoining_88 (cn_8 (cnt_dx (h_14 1 6))) (fun h_15 => ?_)
        refine mj_aload_n C 0 dX6_readJoining_89 (i := 0) rfl rfl ?_
        refine mj_getM C ff_X6_22 dX6_readJoining_90 sh_1 rfl ?_
        refine mj_dup C dX6_readJoining_93 rfl ?_
        refine mj_getI C ff_X6_84 dX6_readJoining_94 (cn_o (cnt_dx (h_15 1 6))) rfl ?_
        refine mj_iconst C (v := 1) dX6_readJoining_97 rfl ?_
        refine mj_iadd C dX6_readJoining_98 ?_
        refine mj_putL C fp_X6_84 dX6_readJoining_99 (cn_o (cnt_dx (h_15 1 6))) rfl rfl rfl (fun h_16 => ?_)
        exact mj_sub [] rfl (mj_some (kj_12 h_16))
    · exact mj_rV C N dX6_readJoining_102
noncomputable def fX6_readTalk (h : Mm) : Option (Mm) := md_b2 (fX6_readToldIdea h) (fun r_1 h_2 => md_b2 (fX6_readToldIdea h_2) (fun r_3 h_4 => md_bd ((if r_1 = r_3 then md_bd (fX6_findFault h_4 (4 : Int32) (h_4 1 5)) (fun h_7 => some h_7) else md_ck (md_in r_3 8) (md_ck (md_in r_1 8) ((if (h_4 ((md_dx (h_4 1 6)) + 1) (r_3).toNatClampNeg) ≤ (h_4 ((md_dx (h_4 1 6)) + 1) (r_1).toNatClampNeg) then some h_4 else md_bd (fX6_findFault h_4 (4 : Int32) (h_4 1 5)) (fun h_8 => some h_8)))))) (fun (h_5 : Mm) => md_b2 (fX6_readNumber h_5 (1 : Int32) (99 : Int32)) (fun r_9 h_10 => md_bd ((if (h_10 1 3) = 0 then md_ck (md_in (h_10 (md_dx (h_10 1 6)) 9) 10) (md_lt (md_up h_10 ((md_dx (h_10 1 6)) + 5) ((h_10 (md_dx (h_10 1 6)) 9)).toNatClampNeg r_1) (fun h_13 : Mm => md_ck (md_in (h_13 (md_dx (h_13 1 6)) 9) 10) (md_lt (md_up h_13 ((md_dx (h_13 1 6)) + 6) ((h_13 (md_dx (h_13 1 6)) 9)).toNatClampNeg r_3) (fun h_14 : Mm => md_ck (md_in (h_14 (md_dx (h_14 1 6)) 9) 10) (md_lt (md_up h_14 ((md_dx (h_14 1 6)) + 7) ((h_14 (md_dx (h_14 1 6)) 9)).toNatClampNeg r_9) (fun h_15 : Mm => md_lt (md_up h_15 (md_dx (h_15 1 6)) 9 ((h_15 (md_dx (h_15 1 6)) 9) + (1 : Int32))) (fun h_16 : Mm => some h_16))))))) else some h_10)) (fun (h_11 : Mm) => some h_11)))))
set_option maxRecDepth 100000 in
set_option maxHeartbeats 4000000 in
theorem ctX6_readTalk (K : Kx) (h : Mm) {a : Mm} (hF : fX6_readTalk h = some a) : Mt K yX6_readTalk cX6_readTalk 4 none 3 66 SHc [rf K 1] h none a := by
  refine Mt.of hF [(0, rf K 1)] (by decide) (Nat.le_of_ble_eq_true rfl) rfl (fun Y C N => ?_)
  have C : Cx K Y (0, 0) cX6_readTalk RX6 4 3 66 := C
  unfold fX6_readTalk
  refine mj_aload_n C 0 dX6_readTalk_0 (i := 0) rfl rfl ?_
  refine mj_vIM C my_X6_readToldIdea mv_X6_106 dX6_readTalk_1 sh_1 rfl (fun a hF => ctX6_readToldIdea K h   hF) (by decide) (by decide) rfl rfl (Nat.le_of_ble_eq_true rfl) (fun r_1 h_2 => ?_)
  refine mj_istore_n C [(1, .int r_1), (0, rf K 1)] dX6_readTalk_4 (i := 1) rfl (by decide) rfl ?_
  refine mj_aload_n C 1 dX6_readTalk_5 (i := 0) rfl rfl ?_
  refine mj_vIM C my_X6_readToldIdea mv_X6_106 dX6_readTalk_6 sh_1 rfl (fun a hF => ctX6_readToldIdea K h_2   hF) (by decide) (by decide) rfl rfl (Nat.le_of_ble_eq_true rfl) (fun r_3 h_4 => ?_)
  refine mj_istore_n C [(2, .int r_3), (1, .int r_1), (0, rf K 1)] dX6_readTalk_9 (i := 2) rfl (by decide) rfl ?_
  refine mj_iload_n C 1 dX6_readTalk_10 (i := 1) rfl rfl ?_
  refine mj_iload_n C 0 dX6_readTalk_11 (i := 2) rfl rfl ?_
  refine mj_phi1 45 (fun (h_5 : Mm) => [(0, rf K 1), (1, .int r_1), (2, .int r_3)]) (fun (h_5 : Mm) => []) (fun (h_5 : Mm) => h_5) (fun P' kj_6 => ?_) (fun h_5 => ?_)
  · refine mj_icmp_eq C 36 dX6_readTalk_12 (by decide) ?_ ?_
    · refine mj_aload_n C 2 dX6_readTalk_36 (i := 0) rfl rfl ?_
      refine mj_iconst C (v := 4) dX6_readTalk_37 rfl ?_
      refine mj_aload_n C 2 dX6_readTalk_38 (i := 0) rfl rfl ?_
      refine mj_getI C ff_X6_109 dX6_readTalk_39 sh_1 rfl ?_
      refine mj_vM C my_X6_findFault mv_X6_77 dX6_readTalk_42 sh_1 rfl (fun a hF => ctX6_findFault K h_4 (4 : Int32) (h_4 1 5)  hF) (by decide) (by decide) rfl rfl (Nat.le_of_ble_eq_true rfl) (fun h_7 => ?_)
      exact mj_sub [2, 1, 0] rfl (mj_some (kj_6 h_7))
    · refine mj_aload_n C 2 dX6_readTalk_15 (i := 0) rfl rfl ?_
      refine mj_getM C ff_X6_22 dX6_readTalk_16 sh_1 rfl ?_
      refine mj_getR C ff_X6_103 dX6_readTalk_19 (cn_o (cnt_dx (h_4 1 6))) rfl ?_
      refine mj_iload_n C 0 dX6_readTalk_22 (i := 2) rfl rfl ?_
      refine mj_iald C dX6_readTalk_23 (cn_4 (cnt_dx (h_4 1 6))) ?_
      refine mj_aload_n C 2 dX6_readTalk_24 (i := 0) rfl rfl ?_
      refine mj_getM C ff_X6_22 dX6_readTalk_25 sh_1 rfl ?_
      refine mj_getR C ff_X6_103 dX6_readTalk_28 (cn_o (cnt_dx (h_4 1 6))) rfl ?_
      refine mj_iload_n C 1 dX6_readTalk_31 (i := 1) rfl rfl ?_
      refine mj_iald C dX6_readTalk_32 (cn_4 (cnt_dx (h_4 1 6))) ?_
      refine mj_icmp_le C 45 dX6_readTalk_33 (by decide) ?_ ?_
      · exact mj_sub [2, 1, 0] rfl (mj_some (kj_6 h_4))
      · refine mj_aload_n C 2 dX6_readTalk_36 (i := 0) rfl rfl ?_
        refine mj_iconst C (v := 4) dX6_readTalk_37 rfl ?_
        refine mj_aload_n C 2 dX6_readTalk_38 (i := 0) rfl rfl ?_
        refine mj_getI C ff_X6_109 dX6_readTalk_39 sh_1 rfl ?_
        refine mj_vM C my_X6_findFault mv_X6_77 dX6_readTalk_42 sh_1 rfl (fun a hF => ctX6_findFault K h_4 (4 : Int32) (h_4 1 5)  hF) (by decide) (by decide) rfl rfl (Nat.le_of_ble_eq_true rfl) (fun h_8 => ?_)
        exact mj_sub [2, 1, 0] rfl (mj_some (kj_6 h_8))
  · refine mj_aload_n C 0 dX6_readTalk_45 (i := 0) rfl rfl ?_
    refine mj_iconst C (v := 1) dX6_readTalk_46 rfl ?_
    refine mj_bipush C (v := 99) dX6_readTalk_47 rfl ?_
    refine mj_vIM C my_X6_readNumber mv_X6_93 dX6_readTalk_49 sh_1 rfl (fun a hF => ctX6_readNumber K h_5 (1 : Int32) (99 : Int32)  hF) (by decide) (by decide) rfl rfl (Nat.le_of_ble_eq_true rfl) (fun r_9 h_10 => ?_)
    refine mj_istore_n C [(3, .int r_9), (0, rf K 1), (1, .int r_1), (2, .int r_3)] dX6_readTalk_52 (i := 3) rfl (by decide) rfl ?_
    refine mj_aload_n C 1 dX6_readTalk_53 (i := 0) rfl rfl ?_
    refine mj_getI C ff_X6_35 dX6_readTalk_54 sh_1 rfl ?_
    refine mj_phi1 121 (fun (h_11 : Mm) => []) (fun (h_11 : Mm) => []) (fun (h_11 : Mm) => h_11) (fun P' kj_12 => ?_) (fun h_11 => ?_)
    · refine mj_if_ne C 121 dX6_readTalk_57 (by decide) ?_ ?_
      · exact mj_sub [] rfl (mj_some (kj_12 h_10))
      · refine mj_aload_n C 1 dX6_readTalk_60 (i := 0) rfl rfl ?_
        refine mj_getM C ff_X6_22 dX6_readTalk_61 sh_1 rfl ?_
        refine mj_getR C ff_X6_121 dX6_readTalk_64 (cn_o (cnt_dx (h_10 1 6))) rfl ?_
        refine mj_aload_n C 1 dX6_readTalk_67 (i := 0) rfl rfl ?_
        refine mj_getM C ff_X6_22 dX6_readTalk_68 sh_1 rfl ?_
        refine mj_getI C ff_X6_87 dX6_readTalk_71 (cn_o (cnt_dx (h_10 1 6))) rfl ?_
        refine mj_iload_n C 2 dX6_readTalk_74 (i := 1) rfl rfl ?_
        refine mj_iast C dX6_readTalk_75 (cn_10 (cnt_dx (h_10 1 6))) (fun h_13 => ?_)
        refine mj_aload_n C 1 dX6_readTalk_76 (i := 0) rfl rfl ?_
        refine mj_getM C ff_X6_22 dX6_readTalk_77 sh_1 rfl ?_
        refine mj_getR C ff_X6_124 dX6_readTalk_80 (cn_o (cnt_dx (h_13 1 6))) rfl ?_
        refine mj_aload_n C 1 dX6_readTalk_83 (i := 0) rfl rfl ?_
        refine mj_getM C ff_X6_22 dX6_readTalk_84 sh_1 rfl ?_
        refine mj_getI C ff_X6_87 dX6_readTalk_87 (cn_o (cnt_dx (h_13 1 6))) rfl ?_
        refine mj_iload_n C 3 dX6_readTalk_90 (i := 2) rfl rfl ?_
        refine mj_iast C dX6_readTalk_91 (cn_11 (cnt_dx (h_13 1 6))) (fun h_14 => ?_)
        refine mj_aload_n C 1 dX6_readTalk_92 (i := 0) rfl rfl ?_
        refine mj_getM C ff_X6_22 dX6_readTalk_93 sh_1 rfl ?_
        refine mj_getR C ff_X6_127 dX6_readTalk_96 (cn_o (cnt_dx (h_14 1 6))) rfl ?_
        refine mj_aload_n C 1 dX6_readTalk_99 (i := 0) rfl rfl ?_
        refine mj_getM C ff_X6_22 dX6_readTalk_100 sh_1 rfl ?_
        refine mj_getI C ff_X6_87 dX6_readTalk_103 (cn_o (cnt_dx (h_14 1 6))) rfl ?_
        refine mj_iload_n C 0 dX6_readTalk_106 (i := 3) rfl rfl ?_
        refine mj_iast C dX6_readTalk_107 (cn_12 (cnt_dx (h_14 1 6))) (fun h_15 => ?_)
        refine mj_aload_n C 1 dX6_readTalk_108 (i := 0) rfl rfl ?_
        refine mj_getM C ff_X6_22 dX6_readTalk_109 sh_1 rfl ?_
        refine mj_dup C dX6_readTalk_112 rfl ?_
        refine mj_getI C ff_X6_87 dX6_readTalk_113 (cn_o (cnt_dx (h_15 1 6))) rfl ?_
        refine mj_iconst C (v := 1) dX6_readTalk_116 rfl ?_
        refine mj_iadd C dX6_readTalk_117 ?_
        refine mj_putL C fp_X6_87 dX6_readTalk_118 (cn_o (cnt_dx (h_15 1 6))) rfl rfl rfl (fun h_16 => ?_)
        exact mj_sub [] rfl (mj_some (kj_12 h_16))
    · exact mj_rV C N dX6_readTalk_121
noncomputable def fX6_readRegistered (h : Mm) : Option (Mm) := md_b2 (fX6_readToldIdea h) (fun r_1 h_2 => md_bd ((if ((h_2 (md_dx (h_2 1 6)) 13) &&& ((1 : Int32) <<< (r_1 &&& 31))) = 0 then some h_2 else md_bd (fX6_findFault h_2 (4 : Int32) (h_2 1 5)) (fun h_5 => some h_5))) (fun (h_3 : Mm) => md_bd ((if (h_3 1 3) = 0 then md_lt (md_up h_3 (md_dx (h_3 1 6)) 13 ((h_3 (md_dx (h_3 1 6)) 13) ||| ((1 : Int32) <<< (r_1 &&& 31)))) (fun h_8 : Mm => some h_8) else some h_3)) (fun (h_6 : Mm) => some h_6)))
set_option maxRecDepth 100000 in
set_option maxHeartbeats 4000000 in
theorem ctX6_readRegistered (K : Kx) (h : Mm) {a : Mm} (hF : fX6_readRegistered h = some a) : Mt K yX6_readRegistered cX6_readRegistered 2 none 3 66 SHc [rf K 1] h none a := by
  refine Mt.of hF [(0, rf K 1)] (by decide) (Nat.le_of_ble_eq_true rfl) rfl (fun Y C N => ?_)
  have C : Cx K Y (0, 0) cX6_readRegistered RX6 2 3 66 := C
  unfold fX6_readRegistered
  refine mj_aload_n C 0 dX6_readRegistered_0 (i := 0) rfl rfl ?_
  refine mj_vIM C my_X6_readToldIdea mv_X6_106 dX6_readRegistered_1 sh_1 rfl (fun a hF => ctX6_readToldIdea K h   hF) (by decide) (by decide) rfl rfl (Nat.le_of_ble_eq_true rfl) (fun r_1 h_2 => ?_)
  refine mj_istore_n C [(1, .int r_1), (0, rf K 1)] dX6_readRegistered_4 (i := 1) rfl (by decide) rfl ?_
  refine mj_aload_n C 1 dX6_readRegistered_5 (i := 0) rfl rfl ?_
  refine mj_getM C ff_X6_22 dX6_readRegistered_6 sh_1 rfl ?_
  refine mj_getI C ff_X6_130 dX6_readRegistered_9 (cn_o (cnt_dx (h_2 1 6))) rfl ?_
  refine mj_iconst C (v := 1) dX6_readRegistered_12 rfl ?_
  refine mj_iload_n C 0 dX6_readRegistered_13 (i := 1) rfl rfl ?_
  refine mj_ishl C dX6_readRegistered_14 ?_
  refine mj_iand C dX6_readRegistered_15 ?_
  refine mj_phi1 28 (fun (h_3 : Mm) => [(0, rf K 1), (1, .int r_1)]) (fun (h_3 : Mm) => []) (fun (h_3 : Mm) => h_3) (fun P' kj_4 => ?_) (fun h_3 => ?_)
  · refine mj_if_eq C 28 dX6_readRegistered_16 (by decide) ?_ ?_
    · exact mj_sub [1, 0] rfl (mj_some (kj_4 h_2))
    · refine mj_aload_n C 1 dX6_readRegistered_19 (i := 0) rfl rfl ?_
      refine mj_iconst C (v := 4) dX6_readRegistered_20 rfl ?_
      refine mj_aload_n C 1 dX6_readRegistered_21 (i := 0) rfl rfl ?_
      refine mj_getI C ff_X6_109 dX6_readRegistered_22 sh_1 rfl ?_
      refine mj_vM C my_X6_findFault mv_X6_77 dX6_readRegistered_25 sh_1 rfl (fun a hF => ctX6_findFault K h_2 (4 : Int32) (h_2 1 5)  hF) (by decide) (by decide) rfl rfl (Nat.le_of_ble_eq_true rfl) (fun h_5 => ?_)
      exact mj_sub [1, 0] rfl (mj_some (kj_4 h_5))
  · refine mj_aload_n C 0 dX6_readRegistered_28 (i := 0) rfl rfl ?_
    refine mj_getI C ff_X6_35 dX6_readRegistered_29 sh_1 rfl ?_
    refine mj_phi1 50 (fun (h_6 : Mm) => []) (fun (h_6 : Mm) => []) (fun (h_6 : Mm) => h_6) (fun P' kj_7 => ?_) (fun h_6 => ?_)
    · refine mj_if_ne C 50 dX6_readRegistered_32 (by decide) ?_ ?_
      · exact mj_sub [] rfl (mj_some (kj_7 h_3))
      · refine mj_aload_n C 0 dX6_readRegistered_35 (i := 0) rfl rfl ?_
        refine mj_getM C ff_X6_22 dX6_readRegistered_36 sh_1 rfl ?_
        refine mj_dup C dX6_readRegistered_39 rfl ?_
        refine mj_getI C ff_X6_130 dX6_readRegistered_40 (cn_o (cnt_dx (h_3 1 6))) rfl ?_
        refine mj_iconst C (v := 1) dX6_readRegistered_43 rfl ?_
        refine mj_iload_n C 1 dX6_readRegistered_44 (i := 1) rfl rfl ?_
        refine mj_ishl C dX6_readRegistered_45 ?_
        refine mj_ior C dX6_readRegistered_46 ?_
        refine mj_putL C fp_X6_130 dX6_readRegistered_47 (cn_o (cnt_dx (h_3 1 6))) rfl rfl rfl (fun h_8 => ?_)
        exact mj_sub [] rfl (mj_some (kj_7 h_8))
    · exact mj_rV C N dX6_readRegistered_50
noncomputable def fX6_readTraveller (h : Mm) : Option (Mm) := md_b2 (fX6_readNumber h (0 : Int32) (((1 : Int32) <<< ((h (md_dx (h 1 6)) 3) &&& 31)) - (1 : Int32))) (fun r_1 h_2 => md_bd ((if (h_2 1 3) = 0 then md_ck (md_in (h_2 (md_dx (h_2 1 6)) 14) 5) (md_lt (md_up h_2 ((md_dx (h_2 1 6)) + 8) ((h_2 (md_dx (h_2 1 6)) 14)).toNatClampNeg r_1) (fun h_5 : Mm => md_lt (md_up h_5 (md_dx (h_5 1 6)) 14 ((h_5 (md_dx (h_5 1 6)) 14) + (1 : Int32))) (fun h_6 : Mm => some h_6))) else some h_2)) (fun (h_3 : Mm) => some h_3))
set_option maxRecDepth 100000 in
set_option maxHeartbeats 4000000 in
theorem ctX6_readTraveller (K : Kx) (h : Mm) {a : Mm} (hF : fX6_readTraveller h = some a) : Mt K yX6_readTraveller cX6_readTraveller 2 none 2 46 SHc [rf K 1] h none a := by
  refine Mt.of hF [(0, rf K 1)] (by decide) (Nat.le_of_ble_eq_true rfl) rfl (fun Y C N => ?_)
  have C : Cx K Y (0, 0) cX6_readTraveller RX6 2 2 46 := C
  unfold fX6_readTraveller
  refine mj_aload_n C 0 dX6_readTraveller_0 (i := 0) rfl rfl ?_
  refine mj_iconst C (v := 0) dX6_readTraveller_1 rfl ?_
  refine mj_iconst C (v := 1) dX6_readTraveller_2 rfl ?_
  refine mj_aload_n C 0 dX6_readTraveller_3 (i := 0) rfl rfl ?_
  refine mj_getM C ff_X6_22 dX6_readTraveller_4 sh_1 rfl ?_
  refine mj_getI C ff_X6_81 dX6_readTraveller_7 (cn_o (cnt_dx (h 1 6))) rfl ?_
  refine mj_ishl C dX6_readTraveller_10 ?_
  refine mj_iconst C (v := 1) dX6_readTraveller_11 rfl ?_
  refine mj_isub C dX6_readTraveller_12 ?_
  refine mj_vIM C my_X6_readNumber mv_X6_93 dX6_readTraveller_13 sh_1 rfl (fun a hF => ctX6_readNumber K h (0 : Int32) (((1 : Int32) <<< ((h (md_dx (h 1 6)) 3) &&& 31)) - (1 : Int32))  hF) (by decide) (by decide) rfl rfl (Nat.le_of_ble_eq_true rfl) (fun r_1 h_2 => ?_)
  refine mj_istore_n C [(1, .int r_1), (0, rf K 1)] dX6_readTraveller_16 (i := 1) rfl (by decide) rfl ?_
  refine mj_aload_n C 1 dX6_readTraveller_17 (i := 0) rfl rfl ?_
  refine mj_getI C ff_X6_35 dX6_readTraveller_18 sh_1 rfl ?_
  refine mj_phi1 53 (fun (h_3 : Mm) => []) (fun (h_3 : Mm) => []) (fun (h_3 : Mm) => h_3) (fun P' kj_4 => ?_) (fun h_3 => ?_)
  · refine mj_if_ne C 53 dX6_readTraveller_21 (by decide) ?_ ?_
    · exact mj_sub [] rfl (mj_some (kj_4 h_2))
    · refine mj_aload_n C 1 dX6_readTraveller_24 (i := 0) rfl rfl ?_
      refine mj_getM C ff_X6_22 dX6_readTraveller_25 sh_1 rfl ?_
      refine mj_getR C ff_X6_133 dX6_readTraveller_28 (cn_o (cnt_dx (h_2 1 6))) rfl ?_
      refine mj_aload_n C 1 dX6_readTraveller_31 (i := 0) rfl rfl ?_
      refine mj_getM C ff_X6_22 dX6_readTraveller_32 sh_1 rfl ?_
      refine mj_getI C ff_X6_90 dX6_readTraveller_35 (cn_o (cnt_dx (h_2 1 6))) rfl ?_
      refine mj_iload_n C 0 dX6_readTraveller_38 (i := 1) rfl rfl ?_
      refine mj_iast C dX6_readTraveller_39 (cn_15 (cnt_dx (h_2 1 6))) (fun h_5 => ?_)
      refine mj_aload_n C 1 dX6_readTraveller_40 (i := 0) rfl rfl ?_
      refine mj_getM C ff_X6_22 dX6_readTraveller_41 sh_1 rfl ?_
      refine mj_dup C dX6_readTraveller_44 rfl ?_
      refine mj_getI C ff_X6_90 dX6_readTraveller_45 (cn_o (cnt_dx (h_5 1 6))) rfl ?_
      refine mj_iconst C (v := 1) dX6_readTraveller_48 rfl ?_
      refine mj_iadd C dX6_readTraveller_49 ?_
      refine mj_putL C fp_X6_90 dX6_readTraveller_50 (cn_o (cnt_dx (h_5 1 6))) rfl rfl rfl (fun h_6 => ?_)
      exact mj_sub [] rfl (mj_some (kj_4 h_6))
  · exact mj_rV C N dX6_readTraveller_53
noncomputable def fX6_readEnd (h : Mm) : Option (Mm) := md_bd (fX6_skipBlanks h) (fun h_1 => md_bd (fX6_letterHere h_1) (fun r_2 => md_bd ((if r_2 = (59 : Int32) then md_lt (md_up h_1 1 4 ((h_1 1 4) + (1 : Int32))) (fun h_6 : Mm => some h_6) else md_bd (fX6_findFault h_1 (1 : Int32) (h_1 1 4)) (fun h_5 => some h_5))) (fun (h_3 : Mm) => some h_3)))
set_option maxRecDepth 100000 in
set_option maxHeartbeats 4000000 in
theorem ctX6_readEnd (K : Kx) (h : Mm) {a : Mm} (hF : fX6_readEnd h = some a) : Mt K yX6_readEnd cX6_readEnd 1 none 1 22 SHc [rf K 1] h none a := by
  refine Mt.of hF [(0, rf K 1)] (by decide) (Nat.le_of_ble_eq_true rfl) rfl (fun Y C N => ?_)
  have C : Cx K Y (0, 0) cX6_readEnd RX6 1 1 22 := C
  unfold fX6_readEnd
  refine mj_aload_n C 0 dX6_readEnd_0 (i := 0) rfl rfl ?_
  refine mj_vM C my_X6_skipBlanks mv_X6_38 dX6_readEnd_1 sh_1 rfl (fun a hF => ctX6_skipBlanks K h   hF) (by decide) (by decide) rfl rfl (Nat.le_of_ble_eq_true rfl) (fun h_1 => ?_)
  refine mj_aload_n C 0 dX6_readEnd_4 (i := 0) rfl rfl ?_
  refine mj_vI C my_X6_letterHere mv_X6_44 dX6_readEnd_5 sh_1 rfl (fun a hF => ctX6_letterHere K h_1   hF) (by decide) (by decide) rfl rfl (Nat.le_of_ble_eq_true rfl) (fun r_2 => ?_)
  refine mj_bipush C (v := 59) dX6_readEnd_8 rfl ?_
  refine mj_phi1 35 (fun (h_3 : Mm) => []) (fun (h_3 : Mm) => []) (fun (h_3 : Mm) => h_3) (fun P' kj_4 => ?_) (fun h_3 => ?_)
  · refine mj_icmp_ne C 26 dX6_readEnd_10 (by decide) ?_ ?_
    · refine mj_aload_n C 0 dX6_readEnd_26 (i := 0) rfl rfl ?_
      refine mj_iconst C (v := 1) dX6_readEnd_27 rfl ?_
      refine mj_aload_n C 0 dX6_readEnd_28 (i := 0) rfl rfl ?_
      refine mj_getI C ff_X6_32 dX6_readEnd_29 sh_1 rfl ?_
      refine mj_vM C my_X6_findFault mv_X6_77 dX6_readEnd_32 sh_1 rfl (fun a hF => ctX6_findFault K h_1 (1 : Int32) (h_1 1 4)  hF) (by decide) (by decide) rfl rfl (Nat.le_of_ble_eq_true rfl) (fun h_5 => ?_)
      exact mj_sub [] rfl (mj_some (kj_4 h_5))
    · refine mj_aload_n C 0 dX6_readEnd_13 (i := 0) rfl rfl ?_
      refine mj_dup C dX6_readEnd_14 rfl ?_
      refine mj_getI C ff_X6_32 dX6_readEnd_15 sh_1 rfl ?_
      refine mj_iconst C (v := 1) dX6_readEnd_18 rfl ?_
      refine mj_iadd C dX6_readEnd_19 ?_
      refine mj_putL C fp_X6_32 dX6_readEnd_20 sh_1 rfl rfl rfl (fun h_6 => ?_)
      refine mj_goto C 35 dX6_readEnd_23 (by decide) ?_
      exact mj_sub [] rfl (mj_some (kj_4 h_6))
  · exact mj_rV C N dX6_readEnd_35
noncomputable def fX6_readClause (h : Mm) : Option (Mm) := md_bd (fX6_letterHere h) (fun r_1 => md_bd (fX6_checkWord h r_1) (fun h_2 => (if (h_2 1 3) = 0 then md_lt (md_up h_2 1 4 ((h_2 1 4) + (1 : Int32))) (fun h_3 : Mm => md_bd ((if r_1 = 100 then md_bd (fX6_readTalk h_3) (fun h_6 => some h_6) else if r_1 = 103 then md_bd (fX6_readGate h_3) (fun h_7 => some h_7) else if r_1 = 105 then md_bd (fX6_readIdea h_3) (fun h_8 => some h_8) else if r_1 = 106 then md_bd (fX6_readJoining h_3) (fun h_9 => some h_9) else if r_1 = 114 then md_bd (fX6_readRegistered h_3) (fun h_10 => some h_10) else md_bd (fX6_readTraveller h_3) (fun h_11 => some h_11))) (fun (h_4 : Mm) => md_bd (fX6_readEnd h_4) (fun h_12 => some h_12))) else some h_2)))
set_option maxRecDepth 100000 in
set_option maxHeartbeats 4000000 in
theorem ctX6_readClause (K : Kx) (h : Mm) {a : Mm} (hF : fX6_readClause h = some a) : Mt K yX6_readClause cX6_readClause 2 none 4 89 SHc [rf K 1] h none a := by
  refine Mt.of hF [(0, rf K 1)] (by decide) (Nat.le_of_ble_eq_true rfl) rfl (fun Y C N => ?_)
  have C : Cx K Y (0, 0) cX6_readClause RX6 2 4 89 := C
  unfold fX6_readClause
  refine mj_aload_n C 0 dX6_readClause_0 (i := 0) rfl rfl ?_
  refine mj_vI C my_X6_letterHere mv_X6_44 dX6_readClause_1 sh_1 rfl (fun a hF => ctX6_letterHere K h   hF) (by decide) (by decide) rfl rfl (Nat.le_of_ble_eq_true rfl) (fun r_1 => ?_)
  refine mj_istore_n C [(1, .int r_1), (0, rf K 1)] dX6_readClause_4 (i := 1) rfl (by decide) rfl ?_
  refine mj_aload_n C 1 dX6_readClause_5 (i := 0) rfl rfl ?_
  refine mj_iload_n C 0 dX6_readClause_6 (i := 1) rfl rfl ?_
  refine mj_vM C my_X6_checkWord mv_X6_48 dX6_readClause_7 sh_1 rfl (fun a hF => ctX6_checkWord K h r_1  hF) (by decide) (by decide) rfl rfl (Nat.le_of_ble_eq_true rfl) (fun h_2 => ?_)
  refine mj_aload_n C 1 dX6_readClause_10 (i := 0) rfl rfl ?_
  refine mj_getI C ff_X6_35 dX6_readClause_11 sh_1 rfl ?_
  refine mj_if_eq C 18 dX6_readClause_14 (by decide) ?_ ?_
  · refine mj_aload_n C 1 dX6_readClause_18 (i := 0) rfl rfl ?_
    refine mj_dup C dX6_readClause_19 rfl ?_
    refine mj_getI C ff_X6_32 dX6_readClause_20 sh_1 rfl ?_
    refine mj_iconst C (v := 1) dX6_readClause_23 rfl ?_
    refine mj_iadd C dX6_readClause_24 ?_
    refine mj_putL C fp_X6_32 dX6_readClause_25 sh_1 rfl rfl rfl (fun h_3 => ?_)
    refine mj_iload_n C 0 dX6_readClause_28 (i := 1) rfl rfl ?_
    refine mj_phi1 143 (fun (h_4 : Mm) => [(0, rf K 1)]) (fun (h_4 : Mm) => []) (fun (h_4 : Mm) => h_4) (fun P' kj_5 => ?_) (fun h_4 => ?_)
    · refine mj_sw0 ?_
      refine mj_tcase C 100 125 dX6_readClause_29 (by decide) (by decide) rfl (by decide) ?_ ?_
      · refine mj_aload_n C 1 dX6_readClause_125 (i := 0) rfl rfl ?_
        refine mj_vM C my_X6_readTalk mv_X6_61 dX6_readClause_126 sh_1 rfl (fun a hF => ctX6_readTalk K h_3   hF) (by decide) (by decide) rfl rfl (Nat.le_of_ble_eq_true rfl) (fun h_6 => ?_)
        refine mj_goto C 143 dX6_readClause_129 (by decide) ?_
        exact mj_sub [1] rfl (mj_some (kj_5 h_6))
      refine mj_tcase C 103 104 dX6_readClause_29 (by decide) (by decide) rfl (by decide) ?_ ?_
      · refine mj_aload_n C 1 dX6_readClause_104 (i := 0) rfl rfl ?_
        refine mj_vM C my_X6_readGate mv_X6_52 dX6_readClause_105 sh_1 rfl (fun a hF => ctX6_readGate K h_3   hF) (by decide) (by decide) rfl rfl (Nat.le_of_ble_eq_true rfl) (fun h_7 => ?_)
        refine mj_goto C 143 dX6_readClause_108 (by decide) ?_
        exact mj_sub [1] rfl (mj_some (kj_5 h_7))
      refine mj_tcase C 105 111 dX6_readClause_29 (by decide) (by decide) rfl (by decide) ?_ ?_
      · refine mj_aload_n C 1 dX6_readClause_111 (i := 0) rfl rfl ?_
        refine mj_vM C my_X6_readIdea mv_X6_55 dX6_readClause_112 sh_1 rfl (fun a hF => ctX6_readIdea K h_3   hF) (by decide) (by decide) rfl rfl (Nat.le_of_ble_eq_true rfl) (fun h_8 => ?_)
        refine mj_goto C 143 dX6_readClause_115 (by decide) ?_
        exact mj_sub [1] rfl (mj_some (kj_5 h_8))
      refine mj_tcase C 106 118 dX6_readClause_29 (by decide) (by decide) rfl (by decide) ?_ ?_
      · refine mj_aload_n C 1 dX6_readClause_118 (i := 0) rfl rfl ?_
        refine mj_vM C my_X6_readJoining mv_X6_58 dX6_readClause_119 sh_1 rfl (fun a hF => ctX6_readJoining K h_3   hF) (by decide) (by decide) rfl rfl (Nat.le_of_ble_eq_true rfl) (fun h_9 => ?_)
        refine mj_goto C 143 dX6_readClause_122 (by decide) ?_
        exact mj_sub [1] rfl (mj_some (kj_5 h_9))
      refine mj_tcase C 114 132 dX6_readClause_29 (by decide) (by decide) rfl (by decide) ?_ ?_
      · refine mj_aload_n C 1 dX6_readClause_132 (i := 0) rfl rfl ?_
        refine mj_vM C my_X6_readRegistered mv_X6_64 dX6_readClause_133 sh_1 rfl (fun a hF => ctX6_readRegistered K h_3   hF) (by decide) (by decide) rfl rfl (Nat.le_of_ble_eq_true rfl) (fun h_10 => ?_)
        refine mj_goto C 143 dX6_readClause_136 (by decide) ?_
        exact mj_sub [1] rfl (mj_some (kj_5 h_10))
      refine mj_tdflt2 C 139 15 dX6_readClause_29 (by decide) (by decide) (by decide) ?_
      refine mj_aload_n C 1 dX6_readClause_139 (i := 0) rfl rfl ?_
      refine mj_vM C my_X6_readTraveller mv_X6_67 dX6_readClause_140 sh_1 rfl (fun a hF => ctX6_readTraveller K h_3   hF) (by decide) (by decide) rfl rfl (Nat.le_of_ble_eq_true rfl) (fun h_11 => ?_)
      exact mj_sub [1] rfl (mj_some (kj_5 h_11))
    · refine mj_aload_n C 0 dX6_readClause_143 (i := 0) rfl rfl ?_
      refine mj_vM C my_X6_readEnd mv_X6_70 dX6_readClause_144 sh_1 rfl (fun a hF => ctX6_readEnd K h_4   hF) (by decide) (by decide) rfl rfl (Nat.le_of_ble_eq_true rfl) (fun h_12 => ?_)
      exact mj_rV C N dX6_readClause_147
  · exact mj_rV C N dX6_readClause_17
noncomputable def fX6_read_24 : Nat → Mm → Int32 → Option (Mm)
  | 0, _, _ => none
  | n + 1, h, l1 => (if (240 : Int32) < l1 then some h else md_bd (fX6_skipBlanks h) (fun h_5 => (if (h_5 1 1) ≤ (h_5 1 4) then some h_5 else (if (h_5 1 3) = 0 then md_bd (fX6_readClause h_5) (fun h_6 => fX6_read_24 n h_6 (l1 + 1)) else some h_5))))
set_option maxRecDepth 100000 in
set_option maxHeartbeats 4000000 in
theorem lX6_read_24 {K : Kx} {Y : Yx} {cs : Nat × Nat} (C : Cx K Y cs cX6_read RX6 2 5 110) {P : Mm → Prop} : ∀ (n : Nat) (h : Mm) (l1 : Int32), (∀ (hw : Mm), J SHc K Y cs (P hw) 66 [(0, rf K 1)] [] hw) → J SHc K Y cs (mj_O (fX6_read_24 n h l1) P) 24 [(0, rf K 1), (1, .int l1)] [] h := by
  intro n
  induction n with
  | zero => intro h l1 kk0; exact mj_none
  | succ n ih =>
    intro h l1 kk0
    rw [fX6_read_24]
    refine mj_iload_n C 1 dX6_read_24 (i := 1) rfl rfl ?_
    refine mj_sipush C (v := 240) dX6_read_25 rfl ?_
    refine mj_icmp_gt C 66 dX6_read_28 (by decide) ?_ ?_
    · exact mj_sub [0] rfl (mj_some (kk0 h))
    · refine mj_aload_n C 0 dX6_read_31 (i := 0) rfl rfl ?_
      refine mj_vM C my_X6_skipBlanks mv_X6_38 dX6_read_32 sh_1 rfl (fun a hF => ctX6_skipBlanks K h   hF) (by decide) (by decide) rfl rfl (Nat.le_of_ble_eq_true rfl) (fun h_5 => ?_)
      refine mj_aload_n C 0 dX6_read_35 (i := 0) rfl rfl ?_
      refine mj_getI C ff_X6_32 dX6_read_36 sh_1 rfl ?_
      refine mj_aload_n C 0 dX6_read_39 (i := 0) rfl rfl ?_
      refine mj_getI C ff_X6_26 dX6_read_40 sh_1 rfl ?_
      refine mj_icmp_ge C 66 dX6_read_43 (by decide) ?_ ?_
      · exact mj_sub [0] rfl (mj_some (kk0 h_5))
      · refine mj_aload_n C 0 dX6_read_46 (i := 0) rfl rfl ?_
        refine mj_getI C ff_X6_35 dX6_read_47 sh_1 rfl ?_
        refine mj_if_eq C 56 dX6_read_50 (by decide) ?_ ?_
        · refine mj_aload_n C 0 dX6_read_56 (i := 0) rfl rfl ?_
          refine mj_vM C my_X6_readClause mv_X6_41 dX6_read_57 sh_1 rfl (fun a hF => ctX6_readClause K h_5   hF) (by decide) (by decide) rfl rfl (Nat.le_of_ble_eq_true rfl) (fun h_6 => ?_)
          refine mj_iinc C (l1 + 1) 1 [(1, .int (l1 + 1)), (0, rf K 1)] dX6_read_60 rfl rfl (by decide) rfl ?_
          refine mj_goto C 24 dX6_read_63 (by decide) ?_
          exact mj_sub [1, 0] rfl (ih h_6 (l1 + 1) kk0)
        · refine mj_goto C 66 dX6_read_53 (by decide) ?_
          exact mj_sub [0] rfl (mj_some (kk0 h_5))
noncomputable def fX6_read (h : Mm) : Option (Bool × Mm) := md_bd (fX1_clear h (md_dx (h 1 6))) (fun h_1 => md_lt (md_up h_1 1 4 (0 : Int32)) (fun h_2 : Mm => md_lt (md_up h_2 1 3 (0 : Int32)) (fun h_3 : Mm => md_lt (md_up h_3 1 2 (-1 : Int32)) (fun h_4 : Mm => md_bd (fX6_read_24 md_N h_4 (0 : Int32)) (fun (h_7 : Mm) => md_bd ((if (h_7 1 3) = 0 then some true else some false)) (fun (v_8 : Bool) => some (v_8, h_7)))))))
set_option maxRecDepth 100000 in
set_option maxHeartbeats 4000000 in
theorem ctX6_read (K : Kx) (h : Mm) {a : Bool × Mm} (hF : fX6_read h = some a) : Mt K yX6_read cX6_read 2 (some .boolean) 5 110 SHc [rf K 1] h (some (.int (md_bi a.1))) a.2 := by
  refine Mt.of hF [(0, rf K 1)] (by decide) (Nat.le_of_ble_eq_true rfl) rfl (fun Y C N => ?_)
  have C : Cx K Y (0, 0) cX6_read RX6 2 5 110 := C
  unfold fX6_read
  refine mj_aload_n C 0 dX6_read_0 (i := 0) rfl rfl ?_
  refine mj_getM C ff_X6_22 dX6_read_1 sh_1 rfl ?_
  refine mj_vM C my_X1_clear mv_X6_29 dX6_read_4 (cn_o (cnt_dx (h 1 6))) rfl (fun a hF => ctX1_clear K h (md_dx (h 1 6)) (cnt_dx (h 1 6)) hF) (by decide) (by decide) rfl rfl (Nat.le_of_ble_eq_true rfl) (fun h_1 => ?_)
  refine mj_aload_n C 0 dX6_read_7 (i := 0) rfl rfl ?_
  refine mj_iconst C (v := 0) dX6_read_8 rfl ?_
  refine mj_putL C fp_X6_32 dX6_read_9 sh_1 rfl rfl rfl (fun h_2 => ?_)
  refine mj_aload_n C 0 dX6_read_12 (i := 0) rfl rfl ?_
  refine mj_iconst C (v := 0) dX6_read_13 rfl ?_
  refine mj_putL C fp_X6_35 dX6_read_14 sh_1 rfl rfl rfl (fun h_3 => ?_)
  refine mj_aload_n C 0 dX6_read_17 (i := 0) rfl rfl ?_
  refine mj_iconst C (v := -1) dX6_read_18 rfl ?_
  refine mj_putL C fp_X6_15 dX6_read_19 sh_1 rfl rfl rfl (fun h_4 => ?_)
  refine mj_iconst C (v := 0) dX6_read_22 rfl ?_
  refine mj_istore_n C [(1, .int (0 : Int32)), (0, rf K 1)] dX6_read_23 (i := 1) rfl (by decide) rfl ?_
  refine mj_phi1 66 (fun (h_7 : Mm) => [(0, rf K 1)]) (fun (h_7 : Mm) => []) (fun (h_7 : Mm) => h_7) (fun P' kj_10 => mj_sub [1, 0] rfl (lX6_read_24 C md_N h_4 (0 : Int32) kj_10)) (fun h_7 => ?_)
  refine mj_aload_n C 0 dX6_read_66 (i := 0) rfl rfl ?_
  refine mj_getI C ff_X6_35 dX6_read_67 sh_1 rfl ?_
  refine mj_phi1 78 (fun (v_8 : Bool) => []) (fun (v_8 : Bool) => [.int (md_bi v_8)]) (fun (v_8 : Bool) => h_7) (fun P' kj_9 => ?_) (fun v_8 => ?_)
  · refine mj_if_ne C 77 dX6_read_70 (by decide) ?_ ?_
    · refine mj_iconst C (v := 0) dX6_read_77 rfl ?_
      exact mj_sub [] rfl (mj_some (kj_9 false))
    · refine mj_iconst C (v := 1) dX6_read_73 rfl ?_
      refine mj_goto C 78 dX6_read_74 (by decide) ?_
      exact mj_sub [] rfl (mj_some (kj_9 true))
  · exact mj_rZM C N dX6_read_78
end
