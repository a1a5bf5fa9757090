section
-- ===== PART A: goes FIRST, ahead of the names: the tables' words, and 'selects' of the private methods out of them =====
/-- a private method of a class that the tables say can be made, by its rows of tables_1 -/
def lw_okq (q : MethodName × Nat) : Prop := (q.1.cls ≠ "java/lang/invoke/MethodHandle" ∧ q.1.cls ≠ "java/lang/invoke/VarHandle") ∧ Cond.instantiable q.1.cls q.2 ∈ tables_1 ∧ Cond.privateMethod q.1 ∈ tables_1 ∧ Cond.instanceMethod q.1 ∈ tables_1
theorem lw_p0 : lw_okq (⟨"HingeTown$Tape", "isLetterAt", "(I)Z"⟩, 8) := ⟨⟨by decide +kernel, by decide +kernel⟩, List.mem_of_getElem? (i := 32) (by decide +kernel), List.mem_of_getElem? (i := 556) (by decide +kernel), List.mem_of_getElem? (i := 557) (by decide +kernel)⟩
theorem lw_p1 : lw_okq (⟨"HingeTown$Tape", "readWord", "()V"⟩, 8) := ⟨⟨by decide +kernel, by decide +kernel⟩, List.mem_of_getElem? (i := 32) (by decide +kernel), List.mem_of_getElem? (i := 560) (by decide +kernel), List.mem_of_getElem? (i := 561) (by decide +kernel)⟩
theorem lw_p2 : lw_okq (⟨"HingeTown$Tape", "isDigitAt", "(I)Z"⟩, 8) := ⟨⟨by decide +kernel, by decide +kernel⟩, List.mem_of_getElem? (i := 32) (by decide +kernel), List.mem_of_getElem? (i := 564) (by decide +kernel), List.mem_of_getElem? (i := 565) (by decide +kernel)⟩
theorem lw_p3 : lw_okq (⟨"HingeTown$Tape", "readNumber", "()V"⟩, 8) := ⟨⟨by decide +kernel, by decide +kernel⟩, List.mem_of_getElem? (i := 32) (by decide +kernel), List.mem_of_getElem? (i := 568) (by decide +kernel), List.mem_of_getElem? (i := 569) (by decide +kernel)⟩
theorem lw_p4 : lw_okq (⟨"HingeTown$Reader", "readPerson", "()Z"⟩, 6) := ⟨⟨by decide +kernel, by decide +kernel⟩, List.mem_of_getElem? (i := 124) (by decide +kernel), List.mem_of_getElem? (i := 632) (by decide +kernel), List.mem_of_getElem? (i := 633) (by decide +kernel)⟩
theorem lw_p5 : lw_okq (⟨"HingeTown$Reader", "refuse", "(I)Z"⟩, 6) := ⟨⟨by decide +kernel, by decide +kernel⟩, List.mem_of_getElem? (i := 124) (by decide +kernel), List.mem_of_getElem? (i := 636) (by decide +kernel), List.mem_of_getElem? (i := 637) (by decide +kernel)⟩
theorem lw_p6 : lw_okq (⟨"HingeTown$Reader", "isNumberBehind", "(III)Z"⟩, 6) := ⟨⟨by decide +kernel, by decide +kernel⟩, List.mem_of_getElem? (i := 124) (by decide +kernel), List.mem_of_getElem? (i := 645) (by decide +kernel), List.mem_of_getElem? (i := 646) (by decide +kernel)⟩
theorem lw_p7 : lw_okq (⟨"HingeTown$Reader", "pass", "(I)Z"⟩, 6) := ⟨⟨by decide +kernel, by decide +kernel⟩, List.mem_of_getElem? (i := 124) (by decide +kernel), List.mem_of_getElem? (i := 649) (by decide +kernel), List.mem_of_getElem? (i := 650) (by decide +kernel)⟩
theorem lw_p8 : lw_okq (⟨"HingeTown$Reader", "isNumberHere", "(II)Z"⟩, 6) := ⟨⟨by decide +kernel, by decide +kernel⟩, List.mem_of_getElem? (i := 124) (by decide +kernel), List.mem_of_getElem? (i := 653) (by decide +kernel), List.mem_of_getElem? (i := 654) (by decide +kernel)⟩
theorem lw_p9 : lw_okq (⟨"HingeTown$Reader", "readSide", "()I"⟩, 6) := ⟨⟨by decide +kernel, by decide +kernel⟩, List.mem_of_getElem? (i := 124) (by decide +kernel), List.mem_of_getElem? (i := 657) (by decide +kernel), List.mem_of_getElem? (i := 658) (by decide +kernel)⟩
theorem lw_p10 : lw_okq (⟨"HingeTown$Reader", "readMeet", "()Z"⟩, 6) := ⟨⟨by decide +kernel, by decide +kernel⟩, List.mem_of_getElem? (i := 124) (by decide +kernel), List.mem_of_getElem? (i := 661) (by decide +kernel), List.mem_of_getElem? (i := 662) (by decide +kernel)⟩
theorem lw_p11 : lw_okq (⟨"HingeTown$Reader", "personHere", "()I"⟩, 6) := ⟨⟨by decide +kernel, by decide +kernel⟩, List.mem_of_getElem? (i := 124) (by decide +kernel), List.mem_of_getElem? (i := 665) (by decide +kernel), List.mem_of_getElem? (i := 666) (by decide +kernel)⟩
theorem lw_p12 : lw_okq (⟨"HingeTown$Reader", "readNoise", "()Z"⟩, 6) := ⟨⟨by decide +kernel, by decide +kernel⟩, List.mem_of_getElem? (i := 124) (by decide +kernel), List.mem_of_getElem? (i := 677) (by decide +kernel), List.mem_of_getElem? (i := 678) (by decide +kernel)⟩
theorem lw_p13 : lw_okq (⟨"HingeTown$Reader", "readWakeful", "()Z"⟩, 6) := ⟨⟨by decide +kernel, by decide +kernel⟩, List.mem_of_getElem? (i := 124) (by decide +kernel), List.mem_of_getElem? (i := 685) (by decide +kernel), List.mem_of_getElem? (i := 686) (by decide +kernel)⟩
theorem lw_p14 : lw_okq (⟨"HingeTown$Reader", "readFormula", "(LHingeTown$Formula;)Z"⟩, 6) := ⟨⟨by decide +kernel, by decide +kernel⟩, List.mem_of_getElem? (i := 124) (by decide +kernel), List.mem_of_getElem? (i := 689) (by decide +kernel), List.mem_of_getElem? (i := 690) (by decide +kernel)⟩
theorem lw_p15 : lw_okq (⟨"HingeTown$Reader", "readEither", "(I)Z"⟩, 6) := ⟨⟨by decide +kernel, by decide +kernel⟩, List.mem_of_getElem? (i := 124) (by decide +kernel), List.mem_of_getElem? (i := 693) (by decide +kernel), List.mem_of_getElem? (i := 694) (by decide +kernel)⟩
def lw_privs_1 : List (MethodName × Nat) := [(⟨"HingeTown$Tape", "isLetterAt", "(I)Z"⟩, 8), (⟨"HingeTown$Tape", "readWord", "()V"⟩, 8), (⟨"HingeTown$Tape", "isDigitAt", "(I)Z"⟩, 8), (⟨"HingeTown$Tape", "readNumber", "()V"⟩, 8), (⟨"HingeTown$Reader", "readPerson", "()Z"⟩, 6), (⟨"HingeTown$Reader", "refuse", "(I)Z"⟩, 6), (⟨"HingeTown$Reader", "isNumberBehind", "(III)Z"⟩, 6), (⟨"HingeTown$Reader", "pass", "(I)Z"⟩, 6), (⟨"HingeTown$Reader", "isNumberHere", "(II)Z"⟩, 6), (⟨"HingeTown$Reader", "readSide", "()I"⟩, 6), (⟨"HingeTown$Reader", "readMeet", "()Z"⟩, 6), (⟨"HingeTown$Reader", "personHere", "()I"⟩, 6), (⟨"HingeTown$Reader", "readNoise", "()Z"⟩, 6), (⟨"HingeTown$Reader", "readWakeful", "()Z"⟩, 6), (⟨"HingeTown$Reader", "readFormula", "(LHingeTown$Formula;)Z"⟩, 6), (⟨"HingeTown$Reader", "readEither", "(I)Z"⟩, 6)]
theorem lw_r1 : ∀ q ∈ lw_privs_1, lw_okq q := List.forall_mem_cons.mpr ⟨lw_p0, List.forall_mem_cons.mpr ⟨lw_p1, List.forall_mem_cons.mpr ⟨lw_p2, List.forall_mem_cons.mpr ⟨lw_p3, List.forall_mem_cons.mpr ⟨lw_p4, List.forall_mem_cons.mpr ⟨lw_p5, List.forall_mem_cons.mpr ⟨lw_p6, List.forall_mem_cons.mpr ⟨lw_p7, List.forall_mem_cons.mpr ⟨lw_p8, List.forall_mem_cons.mpr ⟨lw_p9, List.forall_mem_cons.mpr ⟨lw_p10, List.forall_mem_cons.mpr ⟨lw_p11, List.forall_mem_cons.mpr ⟨lw_p12, List.forall_mem_cons.mpr ⟨lw_p13, List.forall_mem_cons.mpr ⟨lw_p14, List.forall_mem_cons.mpr ⟨lw_p15, fun _ h => absurd h List.not_mem_nil⟩⟩⟩⟩⟩⟩⟩⟩⟩⟩⟩⟩⟩⟩⟩⟩
theorem lw_p16 : lw_okq (⟨"HingeTown$Reader", "readBoth", "(I)Z"⟩, 6) := ⟨⟨by decide +kernel, by decide +kernel⟩, List.mem_of_getElem? (i := 124) (by decide +kernel), List.mem_of_getElem? (i := 697) (by decide +kernel), List.mem_of_getElem? (i := 698) (by decide +kernel)⟩
theorem lw_p17 : lw_okq (⟨"HingeTown$Reader", "readOne", "(I)Z"⟩, 6) := ⟨⟨by decide +kernel, by decide +kernel⟩, List.mem_of_getElem? (i := 124) (by decide +kernel), List.mem_of_getElem? (i := 701) (by decide +kernel), List.mem_of_getElem? (i := 702) (by decide +kernel)⟩
theorem lw_p18 : lw_okq (⟨"HingeTown$Reader", "readRelation", "(I)Z"⟩, 6) := ⟨⟨by decide +kernel, by decide +kernel⟩, List.mem_of_getElem? (i := 124) (by decide +kernel), List.mem_of_getElem? (i := 705) (by decide +kernel), List.mem_of_getElem? (i := 706) (by decide +kernel)⟩
theorem lw_p19 : lw_okq (⟨"HingeTown$Reader", "readSum", "(I)Z"⟩, 6) := ⟨⟨by decide +kernel, by decide +kernel⟩, List.mem_of_getElem? (i := 124) (by decide +kernel), List.mem_of_getElem? (i := 709) (by decide +kernel), List.mem_of_getElem? (i := 710) (by decide +kernel)⟩
theorem lw_p20 : lw_okq (⟨"HingeTown$Reader", "readTerm", "(I)Z"⟩, 6) := ⟨⟨by decide +kernel, by decide +kernel⟩, List.mem_of_getElem? (i := 124) (by decide +kernel), List.mem_of_getElem? (i := 713) (by decide +kernel), List.mem_of_getElem? (i := 714) (by decide +kernel)⟩
theorem lw_p21 : lw_okq (⟨"HingeTown$Reader", "readUnit", "(I)Z"⟩, 6) := ⟨⟨by decide +kernel, by decide +kernel⟩, List.mem_of_getElem? (i := 124) (by decide +kernel), List.mem_of_getElem? (i := 717) (by decide +kernel), List.mem_of_getElem? (i := 718) (by decide +kernel)⟩
theorem lw_p22 : lw_okq (⟨"HingeTown$Reader", "givenHere", "()I"⟩, 6) := ⟨⟨by decide +kernel, by decide +kernel⟩, List.mem_of_getElem? (i := 124) (by decide +kernel), List.mem_of_getElem? (i := 721) (by decide +kernel), List.mem_of_getElem? (i := 722) (by decide +kernel)⟩
theorem lw_p23 : lw_okq (⟨"HingeTown$Reader", "factorHere", "()I"⟩, 6) := ⟨⟨by decide +kernel, by decide +kernel⟩, List.mem_of_getElem? (i := 124) (by decide +kernel), List.mem_of_getElem? (i := 729) (by decide +kernel), List.mem_of_getElem? (i := 730) (by decide +kernel)⟩
theorem lw_p24 : lw_okq (⟨"HingeTown$Reader", "relationHere", "()I"⟩, 6) := ⟨⟨by decide +kernel, by decide +kernel⟩, List.mem_of_getElem? (i := 124) (by decide +kernel), List.mem_of_getElem? (i := 733) (by decide +kernel), List.mem_of_getElem? (i := 734) (by decide +kernel)⟩
theorem lw_p25 : lw_okq (⟨"HingeTown$Reader", "readDate", "()Z"⟩, 6) := ⟨⟨by decide +kernel, by decide +kernel⟩, List.mem_of_getElem? (i := 124) (by decide +kernel), List.mem_of_getElem? (i := 737) (by decide +kernel), List.mem_of_getElem? (i := 738) (by decide +kernel)⟩
theorem lw_p26 : lw_okq (⟨"HingeTown$Street", "reckonSun", "(I)I"⟩, 4) := ⟨⟨by decide +kernel, by decide +kernel⟩, List.mem_of_getElem? (i := 294) (by decide +kernel), List.mem_of_getElem? (i := 786) (by decide +kernel), List.mem_of_getElem? (i := 787) (by decide +kernel)⟩
theorem lw_p27 : lw_okq (⟨"HingeTown$Street", "harmOf", "(IILHingeTown$Day;)I"⟩, 4) := ⟨⟨by decide +kernel, by decide +kernel⟩, List.mem_of_getElem? (i := 294) (by decide +kernel), List.mem_of_getElem? (i := 830) (by decide +kernel), List.mem_of_getElem? (i := 831) (by decide +kernel)⟩
theorem lw_p28 : lw_okq (⟨"HingeTown$Street", "endDay", "()V"⟩, 4) := ⟨⟨by decide +kernel, by decide +kernel⟩, List.mem_of_getElem? (i := 294) (by decide +kernel), List.mem_of_getElem? (i := 918) (by decide +kernel), List.mem_of_getElem? (i := 919) (by decide +kernel)⟩
theorem lw_p29 : lw_okq (⟨"HingeTown$Street", "worthOfMeets", "(ILHingeTown$Day;)I"⟩, 4) := ⟨⟨by decide +kernel, by decide +kernel⟩, List.mem_of_getElem? (i := 294) (by decide +kernel), List.mem_of_getElem? (i := 979) (by decide +kernel), List.mem_of_getElem? (i := 980) (by decide +kernel)⟩
theorem lw_p30 : lw_okq (⟨"HingeTown$Choice", "weighMeet", "(LHingeTown$Plan;ILHingeTown$Day;)V"⟩, 7) := ⟨⟨by decide +kernel, by decide +kernel⟩, List.mem_of_getElem? (i := 412) (by decide +kernel), List.mem_of_getElem? (i := 997) (by decide +kernel), List.mem_of_getElem? (i := 998) (by decide +kernel)⟩
theorem lw_p31 : lw_okq (⟨"HingeTown$Choice", "weighNoise", "(LHingeTown$Street;IILHingeTown$Day;)V"⟩, 7) := ⟨⟨by decide +kernel, by decide +kernel⟩, List.mem_of_getElem? (i := 412) (by decide +kernel), List.mem_of_getElem? (i := 1006) (by decide +kernel), List.mem_of_getElem? (i := 1007) (by decide +kernel)⟩
def lw_privs_2 : List (MethodName × Nat) := [(⟨"HingeTown$Reader", "readBoth", "(I)Z"⟩, 6), (⟨"HingeTown$Reader", "readOne", "(I)Z"⟩, 6), (⟨"HingeTown$Reader", "readRelation", "(I)Z"⟩, 6), (⟨"HingeTown$Reader", "readSum", "(I)Z"⟩, 6), (⟨"HingeTown$Reader", "readTerm", "(I)Z"⟩, 6), (⟨"HingeTown$Reader", "readUnit", "(I)Z"⟩, 6), (⟨"HingeTown$Reader", "givenHere", "()I"⟩, 6), (⟨"HingeTown$Reader", "factorHere", "()I"⟩, 6), (⟨"HingeTown$Reader", "relationHere", "()I"⟩, 6), (⟨"HingeTown$Reader", "readDate", "()Z"⟩, 6), (⟨"HingeTown$Street", "reckonSun", "(I)I"⟩, 4), (⟨"HingeTown$Street", "harmOf", "(IILHingeTown$Day;)I"⟩, 4), (⟨"HingeTown$Street", "endDay", "()V"⟩, 4), (⟨"HingeTown$Street", "worthOfMeets", "(ILHingeTown$Day;)I"⟩, 4), (⟨"HingeTown$Choice", "weighMeet", "(LHingeTown$Plan;ILHingeTown$Day;)V"⟩, 7), (⟨"HingeTown$Choice", "weighNoise", "(LHingeTown$Street;IILHingeTown$Day;)V"⟩, 7)]
theorem lw_r2 : ∀ q ∈ lw_privs_2, lw_okq q := List.forall_mem_cons.mpr ⟨lw_p16, List.forall_mem_cons.mpr ⟨lw_p17, List.forall_mem_cons.mpr ⟨lw_p18, List.forall_mem_cons.mpr ⟨lw_p19, List.forall_mem_cons.mpr ⟨lw_p20, List.forall_mem_cons.mpr ⟨lw_p21, List.forall_mem_cons.mpr ⟨lw_p22, List.forall_mem_cons.mpr ⟨lw_p23, List.forall_mem_cons.mpr ⟨lw_p24, List.forall_mem_cons.mpr ⟨lw_p25, List.forall_mem_cons.mpr ⟨lw_p26, List.forall_mem_cons.mpr ⟨lw_p27, List.forall_mem_cons.mpr ⟨lw_p28, List.forall_mem_cons.mpr ⟨lw_p29, List.forall_mem_cons.mpr ⟨lw_p30, List.forall_mem_cons.mpr ⟨lw_p31, fun _ h => absurd h List.not_mem_nil⟩⟩⟩⟩⟩⟩⟩⟩⟩⟩⟩⟩⟩⟩⟩⟩
theorem lw_p32 : lw_okq (⟨"HingeTown$Choice", "addUpFrom", "(I)V"⟩, 7) := ⟨⟨by decide +kernel, by decide +kernel⟩, List.mem_of_getElem? (i := 412) (by decide +kernel), List.mem_of_getElem? (i := 1016) (by decide +kernel), List.mem_of_getElem? (i := 1017) (by decide +kernel)⟩
theorem lw_p33 : lw_okq (⟨"HingeTown$Choice", "nextTrial", "()I"⟩, 7) := ⟨⟨by decide +kernel, by decide +kernel⟩, List.mem_of_getElem? (i := 412) (by decide +kernel), List.mem_of_getElem? (i := 1020) (by decide +kernel), List.mem_of_getElem? (i := 1021) (by decide +kernel)⟩
theorem lw_p34 : lw_okq (⟨"HingeTown$Choice", "goRound", "([I)Z"⟩, 7) := ⟨⟨by decide +kernel, by decide +kernel⟩, List.mem_of_getElem? (i := 412) (by decide +kernel), List.mem_of_getElem? (i := 1060) (by decide +kernel), List.mem_of_getElem? (i := 1061) (by decide +kernel)⟩
theorem lw_p35 : lw_okq (⟨"HingeTown$Choice", "joyWith", "(II[I)I"⟩, 7) := ⟨⟨by decide +kernel, by decide +kernel⟩, List.mem_of_getElem? (i := 412) (by decide +kernel), List.mem_of_getElem? (i := 1064) (by decide +kernel), List.mem_of_getElem? (i := 1065) (by decide +kernel)⟩
theorem lw_p36 : lw_okq (⟨"HingeTown$Street", "hoursIf", "(ZILHingeTown$Day;)I"⟩, 4) := ⟨⟨by decide +kernel, by decide +kernel⟩, List.mem_of_getElem? (i := 294) (by decide +kernel), List.mem_of_getElem? (i := 1117) (by decide +kernel), List.mem_of_getElem? (i := 1118) (by decide +kernel)⟩
theorem lw_p37 : lw_okq (⟨"HingeTown$Street", "chancesIf", "(ZI)I"⟩, 4) := ⟨⟨by decide +kernel, by decide +kernel⟩, List.mem_of_getElem? (i := 294) (by decide +kernel), List.mem_of_getElem? (i := 1122) (by decide +kernel), List.mem_of_getElem? (i := 1123) (by decide +kernel)⟩
theorem lw_p38 : lw_okq (⟨"HingeTown$Lights", "dropAgainst", "(ILHingeTown$Plan;LHingeTown$Day;)V"⟩, 9) := ⟨⟨by decide +kernel, by decide +kernel⟩, List.mem_of_getElem? (i := 440) (by decide +kernel), List.mem_of_getElem? (i := 1172) (by decide +kernel), List.mem_of_getElem? (i := 1173) (by decide +kernel)⟩
theorem lw_p39 : lw_okq (⟨"HingeTownModel", "four", "(I)V"⟩, 75) := ⟨⟨by decide +kernel, by decide +kernel⟩, List.mem_of_getElem? (i := 1223) (by decide +kernel), List.mem_of_getElem? (i := 1459) (by decide +kernel), List.mem_of_getElem? (i := 1460) (by decide +kernel)⟩
theorem lw_p40 : lw_okq (⟨"HingeTownModel", "readAll", "()V"⟩, 75) := ⟨⟨by decide +kernel, by decide +kernel⟩, List.mem_of_getElem? (i := 1223) (by decide +kernel), List.mem_of_getElem? (i := 1471) (by decide +kernel), List.mem_of_getElem? (i := 1472) (by decide +kernel)⟩
theorem lw_p41 : lw_okq (⟨"HingeTownModel", "token", "()V"⟩, 75) := ⟨⟨by decide +kernel, by decide +kernel⟩, List.mem_of_getElem? (i := 1223) (by decide +kernel), List.mem_of_getElem? (i := 1475) (by decide +kernel), List.mem_of_getElem? (i := 1476) (by decide +kernel)⟩
theorem lw_p42 : lw_okq (⟨"HingeTownModel", "here", "(I)I"⟩, 75) := ⟨⟨by decide +kernel, by decide +kernel⟩, List.mem_of_getElem? (i := 1223) (by decide +kernel), List.mem_of_getElem? (i := 1479) (by decide +kernel), List.mem_of_getElem? (i := 1480) (by decide +kernel)⟩
theorem lw_p43 : lw_okq (⟨"HingeTownModel", "readLine", "()V"⟩, 75) := ⟨⟨by decide +kernel, by decide +kernel⟩, List.mem_of_getElem? (i := 1223) (by decide +kernel), List.mem_of_getElem? (i := 1492) (by decide +kernel), List.mem_of_getElem? (i := 1493) (by decide +kernel)⟩
theorem lw_p44 : lw_okq (⟨"HingeTownModel", "isWord", "(J)Z"⟩, 75) := ⟨⟨by decide +kernel, by decide +kernel⟩, List.mem_of_getElem? (i := 1223) (by decide +kernel), List.mem_of_getElem? (i := 1497) (by decide +kernel), List.mem_of_getElem? (i := 1498) (by decide +kernel)⟩
theorem lw_p45 : lw_okq (⟨"HingeTownModel", "readPerson", "()V"⟩, 75) := ⟨⟨by decide +kernel, by decide +kernel⟩, List.mem_of_getElem? (i := 1223) (by decide +kernel), List.mem_of_getElem? (i := 1501) (by decide +kernel), List.mem_of_getElem? (i := 1502) (by decide +kernel)⟩
theorem lw_p46 : lw_okq (⟨"HingeTownModel", "isName", "()Z"⟩, 75) := ⟨⟨by decide +kernel, by decide +kernel⟩, List.mem_of_getElem? (i := 1223) (by decide +kernel), List.mem_of_getElem? (i := 1505) (by decide +kernel), List.mem_of_getElem? (i := 1506) (by decide +kernel)⟩
theorem lw_p47 : lw_okq (⟨"HingeTownModel", "isOwn", "()Z"⟩, 75) := ⟨⟨by decide +kernel, by decide +kernel⟩, List.mem_of_getElem? (i := 1223) (by decide +kernel), List.mem_of_getElem? (i := 1509) (by decide +kernel), List.mem_of_getElem? (i := 1510) (by decide +kernel)⟩
def lw_privs_3 : List (MethodName × Nat) := [(⟨"HingeTown$Choice", "addUpFrom", "(I)V"⟩, 7), (⟨"HingeTown$Choice", "nextTrial", "()I"⟩, 7), (⟨"HingeTown$Choice", "goRound", "([I)Z"⟩, 7), (⟨"HingeTown$Choice", "joyWith", "(II[I)I"⟩, 7), (⟨"HingeTown$Street", "hoursIf", "(ZILHingeTown$Day;)I"⟩, 4), (⟨"HingeTown$Street", "chancesIf", "(ZI)I"⟩, 4), (⟨"HingeTown$Lights", "dropAgainst", "(ILHingeTown$Plan;LHingeTown$Day;)V"⟩, 9), (⟨"HingeTownModel", "four", "(I)V"⟩, 75), (⟨"HingeTownModel", "readAll", "()V"⟩, 75), (⟨"HingeTownModel", "token", "()V"⟩, 75), (⟨"HingeTownModel", "here", "(I)I"⟩, 75), (⟨"HingeTownModel", "readLine", "()V"⟩, 75), (⟨"HingeTownModel", "isWord", "(J)Z"⟩, 75), (⟨"HingeTownModel", "readPerson", "()V"⟩, 75), (⟨"HingeTownModel", "isName", "()Z"⟩, 75), (⟨"HingeTownModel", "isOwn", "()Z"⟩, 75)]
theorem lw_r3 : ∀ q ∈ lw_privs_3, lw_okq q := List.forall_mem_cons.mpr ⟨lw_p32, List.forall_mem_cons.mpr ⟨lw_p33, List.forall_mem_cons.mpr ⟨lw_p34, List.forall_mem_cons.mpr ⟨lw_p35, List.forall_mem_cons.mpr ⟨lw_p36, List.forall_mem_cons.mpr ⟨lw_p37, List.forall_mem_cons.mpr ⟨lw_p38, List.forall_mem_cons.mpr ⟨lw_p39, List.forall_mem_cons.mpr ⟨lw_p40, List.forall_mem_cons.mpr ⟨lw_p41, List.forall_mem_cons.mpr ⟨lw_p42, List.forall_mem_cons.mpr ⟨lw_p43, List.forall_mem_cons.mpr ⟨lw_p44, List.forall_mem_cons.mpr ⟨lw_p45, List.forall_mem_cons.mpr ⟨lw_p46, List.forall_mem_cons.mpr ⟨lw_p47, fun _ h => absurd h List.not_mem_nil⟩⟩⟩⟩⟩⟩⟩⟩⟩⟩⟩⟩⟩⟩⟩⟩
theorem lw_p48 : lw_okq (⟨"HingeTownModel", "wrong", "(I)V"⟩, 75) := ⟨⟨by decide +kernel, by decide +kernel⟩, List.mem_of_getElem? (i := 1223) (by decide +kernel), List.mem_of_getElem? (i := 1531) (by decide +kernel), List.mem_of_getElem? (i := 1532) (by decide +kernel)⟩
theorem lw_p49 : lw_okq (⟨"HingeTownModel", "find", "()I"⟩, 75) := ⟨⟨by decide +kernel, by decide +kernel⟩, List.mem_of_getElem? (i := 1223) (by decide +kernel), List.mem_of_getElem? (i := 1535) (by decide +kernel), List.mem_of_getElem? (i := 1536) (by decide +kernel)⟩
theorem lw_p50 : lw_okq (⟨"HingeTownModel", "told", "(JII)I"⟩, 75) := ⟨⟨by decide +kernel, by decide +kernel⟩, List.mem_of_getElem? (i := 1223) (by decide +kernel), List.mem_of_getElem? (i := 1539) (by decide +kernel), List.mem_of_getElem? (i := 1540) (by decide +kernel)⟩
theorem lw_p51 : lw_okq (⟨"HingeTownModel", "want", "(J)V"⟩, 75) := ⟨⟨by decide +kernel, by decide +kernel⟩, List.mem_of_getElem? (i := 1223) (by decide +kernel), List.mem_of_getElem? (i := 1543) (by decide +kernel), List.mem_of_getElem? (i := 1544) (by decide +kernel)⟩
theorem lw_p52 : lw_okq (⟨"HingeTownModel", "toldNumber", "(II)I"⟩, 75) := ⟨⟨by decide +kernel, by decide +kernel⟩, List.mem_of_getElem? (i := 1223) (by decide +kernel), List.mem_of_getElem? (i := 1547) (by decide +kernel), List.mem_of_getElem? (i := 1548) (by decide +kernel)⟩
theorem lw_p53 : lw_okq (⟨"HingeTownModel", "readMeet", "()V"⟩, 75) := ⟨⟨by decide +kernel, by decide +kernel⟩, List.mem_of_getElem? (i := 1223) (by decide +kernel), List.mem_of_getElem? (i := 1551) (by decide +kernel), List.mem_of_getElem? (i := 1552) (by decide +kernel)⟩
theorem lw_p54 : lw_okq (⟨"HingeTownModel", "oldPerson", "()I"⟩, 75) := ⟨⟨by decide +kernel, by decide +kernel⟩, List.mem_of_getElem? (i := 1223) (by decide +kernel), List.mem_of_getElem? (i := 1555) (by decide +kernel), List.mem_of_getElem? (i := 1556) (by decide +kernel)⟩
theorem lw_p55 : lw_okq (⟨"HingeTownModel", "isMeetTold", "(II)Z"⟩, 75) := ⟨⟨by decide +kernel, by decide +kernel⟩, List.mem_of_getElem? (i := 1223) (by decide +kernel), List.mem_of_getElem? (i := 1559) (by decide +kernel), List.mem_of_getElem? (i := 1560) (by decide +kernel)⟩
theorem lw_p56 : lw_okq (⟨"HingeTownModel", "readNoise", "()V"⟩, 75) := ⟨⟨by decide +kernel, by decide +kernel⟩, List.mem_of_getElem? (i := 1223) (by decide +kernel), List.mem_of_getElem? (i := 1563) (by decide +kernel), List.mem_of_getElem? (i := 1564) (by decide +kernel)⟩
theorem lw_p57 : lw_okq (⟨"HingeTownModel", "isNoiseTold", "(II)Z"⟩, 75) := ⟨⟨by decide +kernel, by decide +kernel⟩, List.mem_of_getElem? (i := 1223) (by decide +kernel), List.mem_of_getElem? (i := 1567) (by decide +kernel), List.mem_of_getElem? (i := 1568) (by decide +kernel)⟩
theorem lw_p58 : lw_okq (⟨"HingeTownModel", "readWakeful", "()V"⟩, 75) := ⟨⟨by decide +kernel, by decide +kernel⟩, List.mem_of_getElem? (i := 1223) (by decide +kernel), List.mem_of_getElem? (i := 1571) (by decide +kernel), List.mem_of_getElem? (i := 1572) (by decide +kernel)⟩
theorem lw_p59 : lw_okq (⟨"HingeTownModel", "formula", "(I)V"⟩, 75) := ⟨⟨by decide +kernel, by decide +kernel⟩, List.mem_of_getElem? (i := 1223) (by decide +kernel), List.mem_of_getElem? (i := 1575) (by decide +kernel), List.mem_of_getElem? (i := 1576) (by decide +kernel)⟩
theorem lw_p60 : lw_okq (⟨"HingeTownModel", "unit", "()V"⟩, 75) := ⟨⟨by decide +kernel, by decide +kernel⟩, List.mem_of_getElem? (i := 1223) (by decide +kernel), List.mem_of_getElem? (i := 1579) (by decide +kernel), List.mem_of_getElem? (i := 1580) (by decide +kernel)⟩
theorem lw_p61 : lw_okq (⟨"HingeTownModel", "mayNot", "()Z"⟩, 75) := ⟨⟨by decide +kernel, by decide +kernel⟩, List.mem_of_getElem? (i := 1223) (by decide +kernel), List.mem_of_getElem? (i := 1583) (by decide +kernel), List.mem_of_getElem? (i := 1584) (by decide +kernel)⟩
theorem lw_p62 : lw_okq (⟨"HingeTownModel", "openUp", "(I)V"⟩, 75) := ⟨⟨by decide +kernel, by decide +kernel⟩, List.mem_of_getElem? (i := 1223) (by decide +kernel), List.mem_of_getElem? (i := 1590) (by decide +kernel), List.mem_of_getElem? (i := 1591) (by decide +kernel)⟩
theorem lw_p63 : lw_okq (⟨"HingeTownModel", "isFull", "()Z"⟩, 75) := ⟨⟨by decide +kernel, by decide +kernel⟩, List.mem_of_getElem? (i := 1223) (by decide +kernel), List.mem_of_getElem? (i := 1594) (by decide +kernel), List.mem_of_getElem? (i := 1595) (by decide +kernel)⟩
def lw_privs_4 : List (MethodName × Nat) := [(⟨"HingeTownModel", "wrong", "(I)V"⟩, 75), (⟨"HingeTownModel", "find", "()I"⟩, 75), (⟨"HingeTownModel", "told", "(JII)I"⟩, 75), (⟨"HingeTownModel", "want", "(J)V"⟩, 75), (⟨"HingeTownModel", "toldNumber", "(II)I"⟩, 75), (⟨"HingeTownModel", "readMeet", "()V"⟩, 75), (⟨"HingeTownModel", "oldPerson", "()I"⟩, 75), (⟨"HingeTownModel", "isMeetTold", "(II)Z"⟩, 75), (⟨"HingeTownModel", "readNoise", "()V"⟩, 75), (⟨"HingeTownModel", "isNoiseTold", "(II)Z"⟩, 75), (⟨"HingeTownModel", "readWakeful", "()V"⟩, 75), (⟨"HingeTownModel", "formula", "(I)V"⟩, 75), (⟨"HingeTownModel", "unit", "()V"⟩, 75), (⟨"HingeTownModel", "mayNot", "()Z"⟩, 75), (⟨"HingeTownModel", "openUp", "(I)V"⟩, 75), (⟨"HingeTownModel", "isFull", "()Z"⟩, 75)]
theorem lw_r4 : ∀ q ∈ lw_privs_4, lw_okq q := List.forall_mem_cons.mpr ⟨lw_p48, List.forall_mem_cons.mpr ⟨lw_p49, List.forall_mem_cons.mpr ⟨lw_p50, List.forall_mem_cons.mpr ⟨lw_p51, List.forall_mem_cons.mpr ⟨lw_p52, List.forall_mem_cons.mpr ⟨lw_p53, List.forall_mem_cons.mpr ⟨lw_p54, List.forall_mem_cons.mpr ⟨lw_p55, List.forall_mem_cons.mpr ⟨lw_p56, List.forall_mem_cons.mpr ⟨lw_p57, List.forall_mem_cons.mpr ⟨lw_p58, List.forall_mem_cons.mpr ⟨lw_p59, List.forall_mem_cons.mpr ⟨lw_p60, List.forall_mem_cons.mpr ⟨lw_p61, List.forall_mem_cons.mpr ⟨lw_p62, List.forall_mem_cons.mpr ⟨lw_p63, fun _ h => absurd h List.not_mem_nil⟩⟩⟩⟩⟩⟩⟩⟩⟩⟩⟩⟩⟩⟩⟩⟩
theorem lw_p64 : lw_okq (⟨"HingeTownModel", "countUnit", "()V"⟩, 75) := ⟨⟨by decide +kernel, by decide +kernel⟩, List.mem_of_getElem? (i := 1223) (by decide +kernel), List.mem_of_getElem? (i := 1598) (by decide +kernel), List.mem_of_getElem? (i := 1599) (by decide +kernel)⟩
theorem lw_p65 : lw_okq (⟨"HingeTownModel", "asked", "()I"⟩, 75) := ⟨⟨by decide +kernel, by decide +kernel⟩, List.mem_of_getElem? (i := 1223) (by decide +kernel), List.mem_of_getElem? (i := 1602) (by decide +kernel), List.mem_of_getElem? (i := 1603) (by decide +kernel)⟩
theorem lw_p66 : lw_okq (⟨"HingeTownModel", "add", "(II)V"⟩, 75) := ⟨⟨by decide +kernel, by decide +kernel⟩, List.mem_of_getElem? (i := 1223) (by decide +kernel), List.mem_of_getElem? (i := 1606) (by decide +kernel), List.mem_of_getElem? (i := 1607) (by decide +kernel)⟩
theorem lw_p67 : lw_okq (⟨"HingeTownModel", "sign", "()I"⟩, 75) := ⟨⟨by decide +kernel, by decide +kernel⟩, List.mem_of_getElem? (i := 1223) (by decide +kernel), List.mem_of_getElem? (i := 1610) (by decide +kernel), List.mem_of_getElem? (i := 1611) (by decide +kernel)⟩
theorem lw_p68 : lw_okq (⟨"HingeTownModel", "hasBracket", "()Z"⟩, 75) := ⟨⟨by decide +kernel, by decide +kernel⟩, List.mem_of_getElem? (i := 1223) (by decide +kernel), List.mem_of_getElem? (i := 1614) (by decide +kernel), List.mem_of_getElem? (i := 1615) (by decide +kernel)⟩
theorem lw_p69 : lw_okq (⟨"HingeTownModel", "close", "(I)V"⟩, 75) := ⟨⟨by decide +kernel, by decide +kernel⟩, List.mem_of_getElem? (i := 1223) (by decide +kernel), List.mem_of_getElem? (i := 1618) (by decide +kernel), List.mem_of_getElem? (i := 1619) (by decide +kernel)⟩
theorem lw_p70 : lw_okq (⟨"HingeTownModel", "hasRelation", "()Z"⟩, 75) := ⟨⟨by decide +kernel, by decide +kernel⟩, List.mem_of_getElem? (i := 1223) (by decide +kernel), List.mem_of_getElem? (i := 1622) (by decide +kernel), List.mem_of_getElem? (i := 1623) (by decide +kernel)⟩
theorem lw_p71 : lw_okq (⟨"HingeTownModel", "isPerson", "(I)Z"⟩, 75) := ⟨⟨by decide +kernel, by decide +kernel⟩, List.mem_of_getElem? (i := 1223) (by decide +kernel), List.mem_of_getElem? (i := 1634) (by decide +kernel), List.mem_of_getElem? (i := 1635) (by decide +kernel)⟩
theorem lw_p72 : lw_okq (⟨"HingeTownModel", "loadDate", "(I)V"⟩, 75) := ⟨⟨by decide +kernel, by decide +kernel⟩, List.mem_of_getElem? (i := 1223) (by decide +kernel), List.mem_of_getElem? (i := 1641) (by decide +kernel), List.mem_of_getElem? (i := 1642) (by decide +kernel)⟩
theorem lw_p73 : lw_okq (⟨"HingeTownModel", "load", "()V"⟩, 75) := ⟨⟨by decide +kernel, by decide +kernel⟩, List.mem_of_getElem? (i := 1223) (by decide +kernel), List.mem_of_getElem? (i := 1645) (by decide +kernel), List.mem_of_getElem? (i := 1646) (by decide +kernel)⟩
theorem lw_p74 : lw_okq (⟨"HingeTownModel", "layDate", "(I)V"⟩, 75) := ⟨⟨by decide +kernel, by decide +kernel⟩, List.mem_of_getElem? (i := 1223) (by decide +kernel), List.mem_of_getElem? (i := 1649) (by decide +kernel), List.mem_of_getElem? (i := 1650) (by decide +kernel)⟩
theorem lw_p75 : lw_okq (⟨"HingeTownModel", "dawnOf", "(I)I"⟩, 75) := ⟨⟨by decide +kernel, by decide +kernel⟩, List.mem_of_getElem? (i := 1223) (by decide +kernel), List.mem_of_getElem? (i := 1653) (by decide +kernel), List.mem_of_getElem? (i := 1654) (by decide +kernel)⟩
theorem lw_p76 : lw_okq (⟨"HingeTownModel", "askOf", "(IIII)V"⟩, 75) := ⟨⟨by decide +kernel, by decide +kernel⟩, List.mem_of_getElem? (i := 1223) (by decide +kernel), List.mem_of_getElem? (i := 1657) (by decide +kernel), List.mem_of_getElem? (i := 1658) (by decide +kernel)⟩
theorem lw_p77 : lw_okq (⟨"HingeTownModel", "worked", "(IIII)I"⟩, 75) := ⟨⟨by decide +kernel, by decide +kernel⟩, List.mem_of_getElem? (i := 1223) (by decide +kernel), List.mem_of_getElem? (i := 1661) (by decide +kernel), List.mem_of_getElem? (i := 1662) (by decide +kernel)⟩
theorem lw_p78 : lw_okq (⟨"HingeTownModel", "duskOf", "(I)I"⟩, 75) := ⟨⟨by decide +kernel, by decide +kernel⟩, List.mem_of_getElem? (i := 1223) (by decide +kernel), List.mem_of_getElem? (i := 1671) (by decide +kernel), List.mem_of_getElem? (i := 1672) (by decide +kernel)⟩
theorem lw_p79 : lw_okq (⟨"HingeTownModel", "isAwake", "(II)Z"⟩, 75) := ⟨⟨by decide +kernel, by decide +kernel⟩, List.mem_of_getElem? (i := 1223) (by decide +kernel), List.mem_of_getElem? (i := 1681) (by decide +kernel), List.mem_of_getElem? (i := 1682) (by decide +kernel)⟩
def lw_privs_5 : List (MethodName × Nat) := [(⟨"HingeTownModel", "countUnit", "()V"⟩, 75), (⟨"HingeTownModel", "asked", "()I"⟩, 75), (⟨"HingeTownModel", "add", "(II)V"⟩, 75), (⟨"HingeTownModel", "sign", "()I"⟩, 75), (⟨"HingeTownModel", "hasBracket", "()Z"⟩, 75), (⟨"HingeTownModel", "close", "(I)V"⟩, 75), (⟨"HingeTownModel", "hasRelation", "()Z"⟩, 75), (⟨"HingeTownModel", "isPerson", "(I)Z"⟩, 75), (⟨"HingeTownModel", "loadDate", "(I)V"⟩, 75), (⟨"HingeTownModel", "load", "()V"⟩, 75), (⟨"HingeTownModel", "layDate", "(I)V"⟩, 75), (⟨"HingeTownModel", "dawnOf", "(I)I"⟩, 75), (⟨"HingeTownModel", "askOf", "(IIII)V"⟩, 75), (⟨"HingeTownModel", "worked", "(IIII)I"⟩, 75), (⟨"HingeTownModel", "duskOf", "(I)I"⟩, 75), (⟨"HingeTownModel", "isAwake", "(II)Z"⟩, 75)]
theorem lw_r5 : ∀ q ∈ lw_privs_5, lw_okq q := List.forall_mem_cons.mpr ⟨lw_p64, List.forall_mem_cons.mpr ⟨lw_p65, List.forall_mem_cons.mpr ⟨lw_p66, List.forall_mem_cons.mpr ⟨lw_p67, List.forall_mem_cons.mpr ⟨lw_p68, List.forall_mem_cons.mpr ⟨lw_p69, List.forall_mem_cons.mpr ⟨lw_p70, List.forall_mem_cons.mpr ⟨lw_p71, List.forall_mem_cons.mpr ⟨lw_p72, List.forall_mem_cons.mpr ⟨lw_p73, List.forall_mem_cons.mpr ⟨lw_p74, List.forall_mem_cons.mpr ⟨lw_p75, List.forall_mem_cons.mpr ⟨lw_p76, List.forall_mem_cons.mpr ⟨lw_p77, List.forall_mem_cons.mpr ⟨lw_p78, List.forall_mem_cons.mpr ⟨lw_p79, fun _ h => absurd h List.not_mem_nil⟩⟩⟩⟩⟩⟩⟩⟩⟩⟩⟩⟩⟩⟩⟩⟩
theorem lw_p80 : lw_okq (⟨"HingeTownModel", "harmAt", "(II)I"⟩, 75) := ⟨⟨by decide +kernel, by decide +kernel⟩, List.mem_of_getElem? (i := 1223) (by decide +kernel), List.mem_of_getElem? (i := 1685) (by decide +kernel), List.mem_of_getElem? (i := 1686) (by decide +kernel)⟩
theorem lw_p81 : lw_okq (⟨"HingeTownModel", "harmBy", "(II)I"⟩, 75) := ⟨⟨by decide +kernel, by decide +kernel⟩, List.mem_of_getElem? (i := 1223) (by decide +kernel), List.mem_of_getElem? (i := 1689) (by decide +kernel), List.mem_of_getElem? (i := 1690) (by decide +kernel)⟩
theorem lw_p82 : lw_okq (⟨"HingeTownModel", "isMeet", "(I)Z"⟩, 75) := ⟨⟨by decide +kernel, by decide +kernel⟩, List.mem_of_getElem? (i := 1223) (by decide +kernel), List.mem_of_getElem? (i := 1697) (by decide +kernel), List.mem_of_getElem? (i := 1698) (by decide +kernel)⟩
theorem lw_p83 : lw_okq (⟨"HingeTownModel", "canMeet", "(I)Z"⟩, 75) := ⟨⟨by decide +kernel, by decide +kernel⟩, List.mem_of_getElem? (i := 1223) (by decide +kernel), List.mem_of_getElem? (i := 1701) (by decide +kernel), List.mem_of_getElem? (i := 1702) (by decide +kernel)⟩
theorem lw_p84 : lw_okq (⟨"HingeTownModel", "commonOf", "(II)I"⟩, 75) := ⟨⟨by decide +kernel, by decide +kernel⟩, List.mem_of_getElem? (i := 1223) (by decide +kernel), List.mem_of_getElem? (i := 1705) (by decide +kernel), List.mem_of_getElem? (i := 1706) (by decide +kernel)⟩
theorem lw_p85 : lw_okq (⟨"HingeTownModel", "awakeSet", "(I)I"⟩, 75) := ⟨⟨by decide +kernel, by decide +kernel⟩, List.mem_of_getElem? (i := 1223) (by decide +kernel), List.mem_of_getElem? (i := 1723) (by decide +kernel), List.mem_of_getElem? (i := 1724) (by decide +kernel)⟩
theorem lw_p86 : lw_okq (⟨"HingeTownModel", "act", "()V"⟩, 75) := ⟨⟨by decide +kernel, by decide +kernel⟩, List.mem_of_getElem? (i := 1223) (by decide +kernel), List.mem_of_getElem? (i := 1735) (by decide +kernel), List.mem_of_getElem? (i := 1736) (by decide +kernel)⟩
theorem lw_p87 : lw_okq (⟨"HingeTownModel", "goDate", "()V"⟩, 75) := ⟨⟨by decide +kernel, by decide +kernel⟩, List.mem_of_getElem? (i := 1223) (by decide +kernel), List.mem_of_getElem? (i := 1747) (by decide +kernel), List.mem_of_getElem? (i := 1748) (by decide +kernel)⟩
theorem lw_p88 : lw_okq (⟨"HingeTownModel", "exchange", "(I)V"⟩, 75) := ⟨⟨by decide +kernel, by decide +kernel⟩, List.mem_of_getElem? (i := 1223) (by decide +kernel), List.mem_of_getElem? (i := 1755) (by decide +kernel), List.mem_of_getElem? (i := 1756) (by decide +kernel)⟩
theorem lw_p89 : lw_okq (⟨"HingeTownModel", "canSet", "()I"⟩, 75) := ⟨⟨by decide +kernel, by decide +kernel⟩, List.mem_of_getElem? (i := 1223) (by decide +kernel), List.mem_of_getElem? (i := 1771) (by decide +kernel), List.mem_of_getElem? (i := 1772) (by decide +kernel)⟩
theorem lw_p90 : lw_okq (⟨"HingeTownModel", "canOn", "(II)Z"⟩, 75) := ⟨⟨by decide +kernel, by decide +kernel⟩, List.mem_of_getElem? (i := 1223) (by decide +kernel), List.mem_of_getElem? (i := 1779) (by decide +kernel), List.mem_of_getElem? (i := 1780) (by decide +kernel)⟩
theorem lw_p91 : lw_okq (⟨"HingeTownModel", "harmOf", "(I)I"⟩, 75) := ⟨⟨by decide +kernel, by decide +kernel⟩, List.mem_of_getElem? (i := 1223) (by decide +kernel), List.mem_of_getElem? (i := 1791) (by decide +kernel), List.mem_of_getElem? (i := 1792) (by decide +kernel)⟩
theorem lw_p92 : lw_okq (⟨"HingeTownModel", "blissHere", "()I"⟩, 75) := ⟨⟨by decide +kernel, by decide +kernel⟩, List.mem_of_getElem? (i := 1223) (by decide +kernel), List.mem_of_getElem? (i := 1800) (by decide +kernel), List.mem_of_getElem? (i := 1801) (by decide +kernel)⟩
theorem lw_p93 : lw_okq (⟨"HingeTownModel", "allHarm", "()I"⟩, 75) := ⟨⟨by decide +kernel, by decide +kernel⟩, List.mem_of_getElem? (i := 1223) (by decide +kernel), List.mem_of_getElem? (i := 1804) (by decide +kernel), List.mem_of_getElem? (i := 1805) (by decide +kernel)⟩
theorem lw_p94 : lw_okq (⟨"HingeTownModel", "laySides", "(I)I"⟩, 75) := ⟨⟨by decide +kernel, by decide +kernel⟩, List.mem_of_getElem? (i := 1223) (by decide +kernel), List.mem_of_getElem? (i := 1812) (by decide +kernel), List.mem_of_getElem? (i := 1813) (by decide +kernel)⟩
theorem lw_p95 : lw_okq (⟨"HingeTownModel", "putSides", "()V"⟩, 75) := ⟨⟨by decide +kernel, by decide +kernel⟩, List.mem_of_getElem? (i := 1223) (by decide +kernel), List.mem_of_getElem? (i := 1816) (by decide +kernel), List.mem_of_getElem? (i := 1817) (by decide +kernel)⟩
def lw_privs_6 : List (MethodName × Nat) := [(⟨"HingeTownModel", "harmAt", "(II)I"⟩, 75), (⟨"HingeTownModel", "harmBy", "(II)I"⟩, 75), (⟨"HingeTownModel", "isMeet", "(I)Z"⟩, 75), (⟨"HingeTownModel", "canMeet", "(I)Z"⟩, 75), (⟨"HingeTownModel", "commonOf", "(II)I"⟩, 75), (⟨"HingeTownModel", "awakeSet", "(I)I"⟩, 75), (⟨"HingeTownModel", "act", "()V"⟩, 75), (⟨"HingeTownModel", "goDate", "()V"⟩, 75), (⟨"HingeTownModel", "exchange", "(I)V"⟩, 75), (⟨"HingeTownModel", "canSet", "()I"⟩, 75), (⟨"HingeTownModel", "canOn", "(II)Z"⟩, 75), (⟨"HingeTownModel", "harmOf", "(I)I"⟩, 75), (⟨"HingeTownModel", "blissHere", "()I"⟩, 75), (⟨"HingeTownModel", "allHarm", "()I"⟩, 75), (⟨"HingeTownModel", "laySides", "(I)I"⟩, 75), (⟨"HingeTownModel", "putSides", "()V"⟩, 75)]
theorem lw_r6 : ∀ q ∈ lw_privs_6, lw_okq q := List.forall_mem_cons.mpr ⟨lw_p80, List.forall_mem_cons.mpr ⟨lw_p81, List.forall_mem_cons.mpr ⟨lw_p82, List.forall_mem_cons.mpr ⟨lw_p83, List.forall_mem_cons.mpr ⟨lw_p84, List.forall_mem_cons.mpr ⟨lw_p85, List.forall_mem_cons.mpr ⟨lw_p86, List.forall_mem_cons.mpr ⟨lw_p87, List.forall_mem_cons.mpr ⟨lw_p88, List.forall_mem_cons.mpr ⟨lw_p89, List.forall_mem_cons.mpr ⟨lw_p90, List.forall_mem_cons.mpr ⟨lw_p91, List.forall_mem_cons.mpr ⟨lw_p92, List.forall_mem_cons.mpr ⟨lw_p93, List.forall_mem_cons.mpr ⟨lw_p94, List.forall_mem_cons.mpr ⟨lw_p95, fun _ h => absurd h List.not_mem_nil⟩⟩⟩⟩⟩⟩⟩⟩⟩⟩⟩⟩⟩⟩⟩⟩
theorem lw_p96 : lw_okq (⟨"HingeTownModel", "joyHere", "(I)I"⟩, 75) := ⟨⟨by decide +kernel, by decide +kernel⟩, List.mem_of_getElem? (i := 1223) (by decide +kernel), List.mem_of_getElem? (i := 1824) (by decide +kernel), List.mem_of_getElem? (i := 1825) (by decide +kernel)⟩
theorem lw_p97 : lw_okq (⟨"HingeTownModel", "bestSide", "(I)I"⟩, 75) := ⟨⟨by decide +kernel, by decide +kernel⟩, List.mem_of_getElem? (i := 1223) (by decide +kernel), List.mem_of_getElem? (i := 1845) (by decide +kernel), List.mem_of_getElem? (i := 1846) (by decide +kernel)⟩
theorem lw_p98 : lw_okq (⟨"HingeTownModel", "areServed", "(I)Z"⟩, 75) := ⟨⟨by decide +kernel, by decide +kernel⟩, List.mem_of_getElem? (i := 1223) (by decide +kernel), List.mem_of_getElem? (i := 1853) (by decide +kernel), List.mem_of_getElem? (i := 1854) (by decide +kernel)⟩
theorem lw_p99 : lw_okq (⟨"HingeTownModel", "goLetters", "(I)I"⟩, 75) := ⟨⟨by decide +kernel, by decide +kernel⟩, List.mem_of_getElem? (i := 1223) (by decide +kernel), List.mem_of_getElem? (i := 1861) (by decide +kernel), List.mem_of_getElem? (i := 1862) (by decide +kernel)⟩
theorem lw_p100 : lw_okq (⟨"HingeTownModel", "handedOn", "(II)I"⟩, 75) := ⟨⟨by decide +kernel, by decide +kernel⟩, List.mem_of_getElem? (i := 1223) (by decide +kernel), List.mem_of_getElem? (i := 1865) (by decide +kernel), List.mem_of_getElem? (i := 1866) (by decide +kernel)⟩
theorem lw_p101 : lw_okq (⟨"HingeTownModel", "haveMeet", "(II)Z"⟩, 75) := ⟨⟨by decide +kernel, by decide +kernel⟩, List.mem_of_getElem? (i := 1223) (by decide +kernel), List.mem_of_getElem? (i := 1869) (by decide +kernel), List.mem_of_getElem? (i := 1870) (by decide +kernel)⟩
theorem lw_p102 : lw_okq (⟨"HingeTownModel", "layFits", "(II)I"⟩, 75) := ⟨⟨by decide +kernel, by decide +kernel⟩, List.mem_of_getElem? (i := 1223) (by decide +kernel), List.mem_of_getElem? (i := 1912) (by decide +kernel), List.mem_of_getElem? (i := 1913) (by decide +kernel)⟩
theorem lw_p103 : lw_okq (⟨"HingeTownModel", "isFit", "(II)Z"⟩, 75) := ⟨⟨by decide +kernel, by decide +kernel⟩, List.mem_of_getElem? (i := 1223) (by decide +kernel), List.mem_of_getElem? (i := 1916) (by decide +kernel), List.mem_of_getElem? (i := 1917) (by decide +kernel)⟩
theorem lw_p104 : lw_okq (⟨"HingeTownModel", "lightsAt", "(II)I"⟩, 75) := ⟨⟨by decide +kernel, by decide +kernel⟩, List.mem_of_getElem? (i := 1223) (by decide +kernel), List.mem_of_getElem? (i := 1920) (by decide +kernel), List.mem_of_getElem? (i := 1921) (by decide +kernel)⟩
def lw_privs_7 : List (MethodName × Nat) := [(⟨"HingeTownModel", "joyHere", "(I)I"⟩, 75), (⟨"HingeTownModel", "bestSide", "(I)I"⟩, 75), (⟨"HingeTownModel", "areServed", "(I)Z"⟩, 75), (⟨"HingeTownModel", "goLetters", "(I)I"⟩, 75), (⟨"HingeTownModel", "handedOn", "(II)I"⟩, 75), (⟨"HingeTownModel", "haveMeet", "(II)Z"⟩, 75), (⟨"HingeTownModel", "layFits", "(II)I"⟩, 75), (⟨"HingeTownModel", "isFit", "(II)Z"⟩, 75), (⟨"HingeTownModel", "lightsAt", "(II)I"⟩, 75)]
theorem lw_r7 : ∀ q ∈ lw_privs_7, lw_okq q := List.forall_mem_cons.mpr ⟨lw_p96, List.forall_mem_cons.mpr ⟨lw_p97, List.forall_mem_cons.mpr ⟨lw_p98, List.forall_mem_cons.mpr ⟨lw_p99, List.forall_mem_cons.mpr ⟨lw_p100, List.forall_mem_cons.mpr ⟨lw_p101, List.forall_mem_cons.mpr ⟨lw_p102, List.forall_mem_cons.mpr ⟨lw_p103, List.forall_mem_cons.mpr ⟨lw_p104, fun _ h => absurd h List.not_mem_nil⟩⟩⟩⟩⟩⟩⟩⟩⟩
def lw_privs : List (MethodName × Nat) := lw_privs_1 ++ (lw_privs_2 ++ (lw_privs_3 ++ (lw_privs_4 ++ (lw_privs_5 ++ (lw_privs_6 ++ (lw_privs_7))))))
def lw_tbl : List Cond := k2_sels lw_privs ++ tables_1
theorem lw_privs_ok : ∀ q ∈ lw_privs, lw_okq q := by
  show ∀ q ∈ lw_privs_1 ++ (lw_privs_2 ++ (lw_privs_3 ++ (lw_privs_4 ++ (lw_privs_5 ++ (lw_privs_6 ++ (lw_privs_7)))))), lw_okq q
  exact List.forall_mem_append.mpr ⟨lw_r1, List.forall_mem_append.mpr ⟨lw_r2, List.forall_mem_append.mpr ⟨lw_r3, List.forall_mem_append.mpr ⟨lw_r4, List.forall_mem_append.mpr ⟨lw_r5, List.forall_mem_append.mpr ⟨lw_r6, lw_r7⟩⟩⟩⟩⟩⟩
-- ===== end of PART A; then your names; then what follows =====
end
section
def RX0 : String := "HingeTown$Acts"
def TX0 : u_T := fun k => match k with
  | 0 => ("HingeTown$Acts", "rows", "[I", true)
  | 1 => ("HingeTown$Acts", "row", "I", false)
  | 2 => ("HingeTown$Acts", "past", "I", false)
  | _ => ("HingeTown$Acts", "future", "I", false)
def tyX0 : Nat → FieldType := fun k => match k with
  | 0 => .array .int
  | 1 => .int
  | 2 => .int
  | _ => .int
theorem nmX0 : ∀ a, a < 4 → ∀ b, b < 4 → a ≠ b → (TX0 a).2.1 ≠ (TX0 b).2.1 := by decide +kernel
theorem tyX0_ok : ∀ k, k < 4 → parseFieldDescriptor (TX0 k).2.2.1 = some (tyX0 k) := by decide +kernel
abbrev cX0_init : ByteArray := prog_2_method_1_code
def yX0_init : MethodName := ⟨RX0, "<init>", "()V"⟩
abbrev cX0_forgetAll : ByteArray := prog_2_method_2_code
def yX0_forgetAll : MethodName := ⟨RX0, "forgetAll", "(LHingeTown$State;)V"⟩
abbrev cX0_keep : ByteArray := prog_2_method_3_code
def yX0_keep : MethodName := ⟨RX0, "keep", "(LHingeTown$State;)V"⟩
abbrev cX0_stepBack : ByteArray := prog_2_method_4_code
def yX0_stepBack : MethodName := ⟨RX0, "stepBack", "(LHingeTown$State;)Z"⟩
abbrev cX0_stepOn : ByteArray := prog_2_method_5_code
def yX0_stepOn : MethodName := ⟨RX0, "stepOn", "(LHingeTown$State;)Z"⟩
def RX1 : String := "HingeTown$Choice"
def TX1 : u_T := fun k => match k with
  | 0 => ("HingeTown$Choice", "persons", "I", false)
  | 1 => ("HingeTown$Choice", "now", "[I", true)
  | 2 => ("HingeTown$Choice", "joys", "[I", true)
  | 3 => ("HingeTown$Choice", "blisses", "[I", true)
  | 4 => ("HingeTown$Choice", "trial", "[I", true)
  | 5 => ("HingeTown$Choice", "blissUpTo", "[I", true)
  | _ => ("HingeTown$Choice", "changesUpTo", "[I", true)
def tyX1 : Nat → FieldType := fun k => match k with
  | 0 => .int
  | 1 => .array .int
  | 2 => .array .int
  | 3 => .array .int
  | 4 => .array .int
  | 5 => .array .int
  | _ => .array .int
theorem nmX1 : ∀ a, a < 7 → ∀ b, b < 7 → a ≠ b → (TX1 a).2.1 ≠ (TX1 b).2.1 := by decide +kernel
theorem tyX1_ok : ∀ k, k < 7 → parseFieldDescriptor (TX1 k).2.2.1 = some (tyX1 k) := by decide +kernel
abbrev cX1_init : ByteArray := prog_3_method_1_code
def yX1_init : MethodName := ⟨RX1, "<init>", "()V"⟩
abbrev cX1_weigh : ByteArray := prog_3_method_2_code
def yX1_weigh : MethodName := ⟨RX1, "weigh", "(LHingeTown$Street;)V"⟩
abbrev cX1_weighMeet : ByteArray := prog_3_method_3_code
def yX1_weighMeet : MethodName := ⟨RX1, "weighMeet", "(LHingeTown$Plan;ILHingeTown$Day;)V"⟩
abbrev cX1_weighNoise : ByteArray := prog_3_method_4_code
def yX1_weighNoise : MethodName := ⟨RX1, "weighNoise", "(LHingeTown$Street;IILHingeTown$Day;)V"⟩
abbrev cX1_placeOf : ByteArray := prog_3_method_5_code
def yX1_placeOf : MethodName := ⟨RX1, "placeOf", "(II)I"⟩
abbrev cX1_bestForAll : ByteArray := prog_3_method_6_code
def yX1_bestForAll : MethodName := ⟨RX1, "bestForAll", "([I)I"⟩
abbrev cX1_addUpFrom : ByteArray := prog_3_method_7_code
def yX1_addUpFrom : MethodName := ⟨RX1, "addUpFrom", "(I)V"⟩
abbrev cX1_nextTrial : ByteArray := prog_3_method_8_code
def yX1_nextTrial : MethodName := ⟨RX1, "nextTrial", "()I"⟩
abbrev cX1_comeToRest : ByteArray := prog_3_method_9_code
def yX1_comeToRest : MethodName := ⟨RX1, "comeToRest", "([I)I"⟩
abbrev cX1_goRound : ByteArray := prog_3_method_10_code
def yX1_goRound : MethodName := ⟨RX1, "goRound", "([I)Z"⟩
abbrev cX1_joyWith : ByteArray := prog_3_method_11_code
def yX1_joyWith : MethodName := ⟨RX1, "joyWith", "(II[I)I"⟩
def RX2 : String := "HingeTown$Day"
def TX2 : u_T := fun k => match k with
  | 0 => ("HingeTown$Day", "date", "I", false)
  | 1 => ("HingeTown$Day", "dawn", "I", false)
  | 2 => ("HingeTown$Day", "dusk", "I", false)
  | _ => ("HingeTown$Day", "hours", "[I", true)
def tyX2 : Nat → FieldType := fun k => match k with
  | 0 => .int
  | 1 => .int
  | 2 => .int
  | _ => .array .int
theorem nmX2 : ∀ a, a < 4 → ∀ b, b < 4 → a ≠ b → (TX2 a).2.1 ≠ (TX2 b).2.1 := by decide +kernel
theorem tyX2_ok : ∀ k, k < 4 → parseFieldDescriptor (TX2 k).2.2.1 = some (tyX2 k) := by decide +kernel
abbrev cX2_init : ByteArray := prog_4_method_1_code
def yX2_init : MethodName := ⟨RX2, "<init>", "()V"⟩
abbrev cX2_become : ByteArray := prog_4_method_2_code
def yX2_become : MethodName := ⟨RX2, "become", "(III)V"⟩
abbrev cX2_hoursAround : ByteArray := prog_4_method_3_code
def yX2_hoursAround : MethodName := ⟨RX2, "hoursAround", "(I)I"⟩
abbrev cX2_wakes : ByteArray := prog_4_method_4_code
def yX2_wakes : MethodName := ⟨RX2, "wakes", "(II)Z"⟩
def RX3 : String := "HingeTown$Formula"
def TX3 : u_T := fun k => match k with
  | 0 => ("HingeTown$Formula", "codes", "[I", true)
  | 1 => ("HingeTown$Formula", "stack", "[I", true)
  | 2 => ("HingeTown$Formula", "size", "I", false)
  | _ => ("HingeTown$Formula", "told", "Z", false)
def tyX3 : Nat → FieldType := fun k => match k with
  | 0 => .array .int
  | 1 => .array .int
  | 2 => .int
  | _ => .boolean
theorem nmX3 : ∀ a, a < 4 → ∀ b, b < 4 → a ≠ b → (TX3 a).2.1 ≠ (TX3 b).2.1 := by decide +kernel
theorem tyX3_ok : ∀ k, k < 4 → parseFieldDescriptor (TX3 k).2.2.1 = some (tyX3 k) := by decide +kernel
abbrev cX3_init : ByteArray := prog_5_method_1_code
def yX3_init : MethodName := ⟨RX3, "<init>", "()V"⟩
abbrev cX3_clear : ByteArray := prog_5_method_2_code
def yX3_clear : MethodName := ⟨RX3, "clear", "()V"⟩
abbrev cX3_put : ByteArray := prog_5_method_3_code
def yX3_put : MethodName := ⟨RX3, "put", "(I)V"⟩
abbrev cX3_valueOf : ByteArray := prog_5_method_4_code
def yX3_valueOf : MethodName := ⟨RX3, "valueOf", "(IIII)I"⟩
abbrev cX3_leafOf : ByteArray := prog_5_method_5_code
def yX3_leafOf : MethodName := ⟨RX3, "leafOf", "(IIIII)I"⟩
abbrev cX3_join : ByteArray := prog_5_method_6_code
def yX3_join : MethodName := ⟨RX3, "join", "(III)I"⟩
def RX4 : String := "HingeTown$Letters"
def TX4 : u_T := fun k => match k with
  | _ => ("", "", "", false)
def tyX4 : Nat → FieldType := fun k => match k with
  | _ => .int
theorem nmX4 : ∀ a, a < 0 → ∀ b, b < 0 → a ≠ b → (TX4 a).2.1 ≠ (TX4 b).2.1 := by decide +kernel
theorem tyX4_ok : ∀ k, k < 0 → parseFieldDescriptor (TX4 k).2.2.1 = some (tyX4 k) := by decide +kernel
abbrev cX4_hoursTo : ByteArray := prog_6_method_2_code
def yX4_hoursTo : MethodName := ⟨RX4, "hoursTo", "(LHingeTown$Street;II)I"⟩
abbrev cX4_whoHasIt : ByteArray := prog_6_method_3_code
def yX4_whoHasIt : MethodName := ⟨RX4, "whoHasIt", "(LHingeTown$Street;II)I"⟩
abbrev cX4_fewestWoken : ByteArray := prog_6_method_4_code
def yX4_fewestWoken : MethodName := ⟨RX4, "fewestWoken", "(LHingeTown$Street;II)I"⟩
abbrev cX4_whoIsAwakeBehind : ByteArray := prog_6_method_5_code
def yX4_whoIsAwakeBehind : MethodName := ⟨RX4, "whoIsAwakeBehind", "(LHingeTown$Street;I)I"⟩
abbrev cX4_handOn : ByteArray := prog_6_method_6_code
def yX4_handOn : MethodName := ⟨RX4, "handOn", "(LHingeTown$Plan;II)I"⟩
def RX5 : String := "HingeTown$Lights"
def TX5 : u_T := fun k => match k with
  | 0 => ("HingeTown$Lights", "count", "I", false)
  | 1 => ("HingeTown$Lights", "time", "I", false)
  | 2 => ("HingeTown$Lights", "houses", "[I", true)
  | 3 => ("HingeTown$Lights", "hours", "[I", true)
  | 4 => ("HingeTown$Lights", "were", "[Z", true)
  | 5 => ("HingeTown$Lights", "toldAt", "[I", true)
  | 6 => ("HingeTown$Lights", "untoldAt", "[I", true)
  | 7 => ("HingeTown$Lights", "nights", "[I", true)
  | _ => ("HingeTown$Lights", "ways", "I", false)
def tyX5 : Nat → FieldType := fun k => match k with
  | 0 => .int
  | 1 => .int
  | 2 => .array .int
  | 3 => .array .int
  | 4 => .array .boolean
  | 5 => .array .int
  | 6 => .array .int
  | 7 => .array .int
  | _ => .int
theorem nmX5 : ∀ a, a < 9 → ∀ b, b < 9 → a ≠ b → (TX5 a).2.1 ≠ (TX5 b).2.1 := by decide +kernel
theorem tyX5_ok : ∀ k, k < 9 → parseFieldDescriptor (TX5 k).2.2.1 = some (tyX5 k) := by decide +kernel
abbrev cX5_init : ByteArray := prog_7_method_1_code
def yX5_init : MethodName := ⟨RX5, "<init>", "()V"⟩
abbrev cX5_forgetAll : ByteArray := prog_7_method_2_code
def yX5_forgetAll : MethodName := ⟨RX5, "forgetAll", "()V"⟩
abbrev cX5_tell : ByteArray := prog_7_method_3_code
def yX5_tell : MethodName := ⟨RX5, "tell", "(IIZ)I"⟩
abbrev cX5_takeBack : ByteArray := prog_7_method_4_code
def yX5_takeBack : MethodName := ⟨RX5, "takeBack", "(I)Z"⟩
abbrev cX5_goOn : ByteArray := prog_7_method_5_code
def yX5_goOn : MethodName := ⟨RX5, "goOn", "(I)I"⟩
abbrev cX5_lookAt : ByteArray := prog_7_method_6_code
def yX5_lookAt : MethodName := ⟨RX5, "lookAt", "(LHingeTown$Street;I)V"⟩
abbrev cX5_dropAgainst : ByteArray := prog_7_method_7_code
def yX5_dropAgainst : MethodName := ⟨RX5, "dropAgainst", "(ILHingeTown$Plan;LHingeTown$Day;)V"⟩
abbrev cX5_isLit : ByteArray := prog_7_method_8_code
def yX5_isLit : MethodName := ⟨RX5, "isLit", "(IIZ)Z"⟩
abbrev cX5_sideOf : ByteArray := prog_7_method_9_code
def yX5_sideOf : MethodName := ⟨RX5, "sideOf", "(I)I"⟩
abbrev cX5_bestHour : ByteArray := prog_7_method_10_code
def yX5_bestHour : MethodName := ⟨RX5, "bestHour", "(LHingeTown$Street;I)I"⟩
abbrev cX5_mostLeft : ByteArray := prog_7_method_11_code
def yX5_mostLeft : MethodName := ⟨RX5, "mostLeft", "(LHingeTown$Street;II)I"⟩
def RX6 : String := "HingeTown$Plan"
def TX6 : u_T := fun k => match k with
  | 0 => ("HingeTown$Plan", "persons", "I", false)
  | 1 => ("HingeTown$Plan", "names", "[J", true)
  | 2 => ("HingeTown$Plan", "houses", "[I", true)
  | 3 => ("HingeTown$Plan", "sides", "[I", true)
  | 4 => ("HingeTown$Plan", "wakeful", "[I", true)
  | 5 => ("HingeTown$Plan", "meets", "I", false)
  | 6 => ("HingeTown$Plan", "ones", "[I", true)
  | 7 => ("HingeTown$Plan", "others", "[I", true)
  | 8 => ("HingeTown$Plan", "hours", "[I", true)
  | 9 => ("HingeTown$Plan", "worths", "[I", true)
  | 10 => ("HingeTown$Plan", "noises", "I", false)
  | 11 => ("HingeTown$Plan", "makers", "[I", true)
  | 12 => ("HingeTown$Plan", "times", "[I", true)
  | 13 => ("HingeTown$Plan", "louds", "[I", true)
  | 14 => ("HingeTown$Plan", "date", "I", false)
  | 15 => ("HingeTown$Plan", "dawn", "LHingeTown$Formula;", true)
  | 16 => ("HingeTown$Plan", "dusk", "LHingeTown$Formula;", true)
  | 17 => ("HingeTown$Plan", "harm", "LHingeTown$Formula;", true)
  | _ => ("HingeTown$Plan", "units", "I", false)
def tyX6 : Nat → FieldType := fun k => match k with
  | 0 => .int
  | 1 => .array .long
  | 2 => .array .int
  | 3 => .array .int
  | 4 => .array .int
  | 5 => .int
  | 6 => .array .int
  | 7 => .array .int
  | 8 => .array .int
  | 9 => .array .int
  | 10 => .int
  | 11 => .array .int
  | 12 => .array .int
  | 13 => .array .int
  | 14 => .int
  | 15 => .object "HingeTown$Formula"
  | 16 => .object "HingeTown$Formula"
  | 17 => .object "HingeTown$Formula"
  | _ => .int
theorem nmX6 : ∀ a, a < 19 → ∀ b, b < 19 → a ≠ b → (TX6 a).2.1 ≠ (TX6 b).2.1 := by decide +kernel
theorem tyX6_ok : ∀ k, k < 19 → parseFieldDescriptor (TX6 k).2.2.1 = some (tyX6 k) := by decide +kernel
abbrev cX6_init : ByteArray := prog_8_method_1_code
def yX6_init : MethodName := ⟨RX6, "<init>", "()V"⟩
abbrev cX6_clear : ByteArray := prog_8_method_2_code
def yX6_clear : MethodName := ⟨RX6, "clear", "()V"⟩
abbrev cX6_find : ByteArray := prog_8_method_3_code
def yX6_find : MethodName := ⟨RX6, "find", "(J)I"⟩
abbrev cX6_hasMeetOf : ByteArray := prog_8_method_4_code
def yX6_hasMeetOf : MethodName := ⟨RX6, "hasMeetOf", "(II)Z"⟩
abbrev cX6_noiseOf : ByteArray := prog_8_method_5_code
def yX6_noiseOf : MethodName := ⟨RX6, "noiseOf", "(II)I"⟩
abbrev cX6_bothOf : ByteArray := prog_8_method_6_code
def yX6_bothOf : MethodName := ⟨RX6, "bothOf", "(I)I"⟩
abbrev cX6_wakefulOf : ByteArray := prog_8_method_7_code
def yX6_wakefulOf : MethodName := ⟨RX6, "wakefulOf", "(I)I"⟩
abbrev cX6_whoLivesAt : ByteArray := prog_8_method_8_code
def yX6_whoLivesAt : MethodName := ⟨RX6, "whoLivesAt", "(I)I"⟩
def RX7 : String := "HingeTown$Reader"
def TX7 : u_T := fun k => match k with
  | 0 => ("HingeTown$Reader", "tape", "LHingeTown$Tape;", true)
  | 1 => ("HingeTown$Reader", "plan", "LHingeTown$Plan;", false)
  | 2 => ("HingeTown$Reader", "formula", "LHingeTown$Formula;", false)
  | 3 => ("HingeTown$Reader", "unitsHere", "I", false)
  | 4 => ("HingeTown$Reader", "fault", "I", false)
  | _ => ("HingeTown$Reader", "place", "I", false)
def tyX7 : Nat → FieldType := fun k => match k with
  | 0 => .object "HingeTown$Tape"
  | 1 => .object "HingeTown$Plan"
  | 2 => .object "HingeTown$Formula"
  | 3 => .int
  | 4 => .int
  | _ => .int
theorem nmX7 : ∀ a, a < 6 → ∀ b, b < 6 → a ≠ b → (TX7 a).2.1 ≠ (TX7 b).2.1 := by decide +kernel
theorem tyX7_ok : ∀ k, k < 6 → parseFieldDescriptor (TX7 k).2.2.1 = some (tyX7 k) := by decide +kernel
abbrev cX7_init : ByteArray := prog_9_method_1_code
def yX7_init : MethodName := ⟨RX7, "<init>", "(LHingeTown$Tape;)V"⟩
abbrev cX7_giveFor : ByteArray := prog_9_method_2_code
def yX7_giveFor : MethodName := ⟨RX7, "giveFor", "(LHingeTown$Plan;)LHingeTown$Plan;"⟩
abbrev cX7_readTown : ByteArray := prog_9_method_3_code
def yX7_readTown : MethodName := ⟨RX7, "readTown", "()Z"⟩
abbrev cX7_readPerson : ByteArray := prog_9_method_4_code
def yX7_readPerson : MethodName := ⟨RX7, "readPerson", "()Z"⟩
abbrev cX7_readSide : ByteArray := prog_9_method_5_code
def yX7_readSide : MethodName := ⟨RX7, "readSide", "()I"⟩
abbrev cX7_readMeet : ByteArray := prog_9_method_6_code
def yX7_readMeet : MethodName := ⟨RX7, "readMeet", "()Z"⟩
abbrev cX7_readNoise : ByteArray := prog_9_method_7_code
def yX7_readNoise : MethodName := ⟨RX7, "readNoise", "()Z"⟩
abbrev cX7_readWakeful : ByteArray := prog_9_method_8_code
def yX7_readWakeful : MethodName := ⟨RX7, "readWakeful", "()Z"⟩
abbrev cX7_readDate : ByteArray := prog_9_method_9_code
def yX7_readDate : MethodName := ⟨RX7, "readDate", "()Z"⟩
abbrev cX7_readFormula : ByteArray := prog_9_method_10_code
def yX7_readFormula : MethodName := ⟨RX7, "readFormula", "(LHingeTown$Formula;)Z"⟩
abbrev cX7_readEither : ByteArray := prog_9_method_11_code
def yX7_readEither : MethodName := ⟨RX7, "readEither", "(I)Z"⟩
abbrev cX7_readBoth : ByteArray := prog_9_method_12_code
def yX7_readBoth : MethodName := ⟨RX7, "readBoth", "(I)Z"⟩
abbrev cX7_readOne : ByteArray := prog_9_method_13_code
def yX7_readOne : MethodName := ⟨RX7, "readOne", "(I)Z"⟩
abbrev cX7_readRelation : ByteArray := prog_9_method_14_code
def yX7_readRelation : MethodName := ⟨RX7, "readRelation", "(I)Z"⟩
abbrev cX7_readSum : ByteArray := prog_9_method_15_code
def yX7_readSum : MethodName := ⟨RX7, "readSum", "(I)Z"⟩
abbrev cX7_readTerm : ByteArray := prog_9_method_16_code
def yX7_readTerm : MethodName := ⟨RX7, "readTerm", "(I)Z"⟩
abbrev cX7_readUnit : ByteArray := prog_9_method_17_code
def yX7_readUnit : MethodName := ⟨RX7, "readUnit", "(I)Z"⟩
abbrev cX7_relationHere : ByteArray := prog_9_method_18_code
def yX7_relationHere : MethodName := ⟨RX7, "relationHere", "()I"⟩
abbrev cX7_factorHere : ByteArray := prog_9_method_19_code
def yX7_factorHere : MethodName := ⟨RX7, "factorHere", "()I"⟩
abbrev cX7_givenHere : ByteArray := prog_9_method_20_code
def yX7_givenHere : MethodName := ⟨RX7, "givenHere", "()I"⟩
abbrev cX7_personHere : ByteArray := prog_9_method_21_code
def yX7_personHere : MethodName := ⟨RX7, "personHere", "()I"⟩
abbrev cX7_isNumberBehind : ByteArray := prog_9_method_22_code
def yX7_isNumberBehind : MethodName := ⟨RX7, "isNumberBehind", "(III)Z"⟩
abbrev cX7_isNumberHere : ByteArray := prog_9_method_23_code
def yX7_isNumberHere : MethodName := ⟨RX7, "isNumberHere", "(II)Z"⟩
abbrev cX7_pass : ByteArray := prog_9_method_24_code
def yX7_pass : MethodName := ⟨RX7, "pass", "(I)Z"⟩
abbrev cX7_refuse : ByteArray := prog_9_method_25_code
def yX7_refuse : MethodName := ⟨RX7, "refuse", "(I)Z"⟩
def RX8 : String := "HingeTown$State"
def TX8 : u_T := fun k => match k with
  | 0 => ("HingeTown$State", "sides", "[I", true)
  | 1 => ("HingeTown$State", "suffered", "[I", true)
  | 2 => ("HingeTown$State", "together", "[I", true)
  | 3 => ("HingeTown$State", "met", "[I", true)
  | 4 => ("HingeTown$State", "quiet", "I", false)
  | 5 => ("HingeTown$State", "hour", "I", false)
  | _ => ("HingeTown$State", "date", "I", false)
def tyX8 : Nat → FieldType := fun k => match k with
  | 0 => .array .int
  | 1 => .array .int
  | 2 => .array .int
  | 3 => .array .int
  | 4 => .int
  | 5 => .int
  | _ => .int
theorem nmX8 : ∀ a, a < 7 → ∀ b, b < 7 → a ≠ b → (TX8 a).2.1 ≠ (TX8 b).2.1 := by decide +kernel
theorem tyX8_ok : ∀ k, k < 7 → parseFieldDescriptor (TX8 k).2.2.1 = some (tyX8 k) := by decide +kernel
abbrev cX8_init : ByteArray := prog_10_method_1_code
def yX8_init : MethodName := ⟨RX8, "<init>", "()V"⟩
abbrev cX8_begin : ByteArray := prog_10_method_2_code
def yX8_begin : MethodName := ⟨RX8, "begin", "(LHingeTown$Plan;)V"⟩
abbrev cX8_save : ByteArray := prog_10_method_3_code
def yX8_save : MethodName := ⟨RX8, "save", "([II)V"⟩
abbrev cX8_load : ByteArray := prog_10_method_4_code
def yX8_load : MethodName := ⟨RX8, "load", "([II)V"⟩
def RX9 : String := "HingeTown$Street"
def TX9 : u_T := fun k => match k with
  | 0 => ("HingeTown$Street", "state", "LHingeTown$State;", true)
  | 1 => ("HingeTown$Street", "plan", "LHingeTown$Plan;", false)
  | 2 => ("HingeTown$Street", "day", "LHingeTown$Day;", true)
  | _ => ("HingeTown$Street", "suns", "[I", true)
def tyX9 : Nat → FieldType := fun k => match k with
  | 0 => .object "HingeTown$State"
  | 1 => .object "HingeTown$Plan"
  | 2 => .object "HingeTown$Day"
  | _ => .array .int
theorem nmX9 : ∀ a, a < 4 → ∀ b, b < 4 → a ≠ b → (TX9 a).2.1 ≠ (TX9 b).2.1 := by decide +kernel
theorem tyX9_ok : ∀ k, k < 4 → parseFieldDescriptor (TX9 k).2.2.1 = some (tyX9 k) := by decide +kernel
abbrev cX9_init : ByteArray := prog_11_method_1_code
def yX9_init : MethodName := ⟨RX9, "<init>", "()V"⟩
abbrev cX9_settle : ByteArray := prog_11_method_2_code
def yX9_settle : MethodName := ⟨RX9, "settle", "(LHingeTown$Plan;)V"⟩
abbrev cX9_hasPerson : ByteArray := prog_11_method_3_code
def yX9_hasPerson : MethodName := ⟨RX9, "hasPerson", "(I)Z"⟩
abbrev cX9_hasMeet : ByteArray := prog_11_method_4_code
def yX9_hasMeet : MethodName := ⟨RX9, "hasMeet", "(I)Z"⟩
abbrev cX9_everybody : ByteArray := prog_11_method_5_code
def yX9_everybody : MethodName := ⟨RX9, "everybody", "()I"⟩
abbrev cX9_dayOf : ByteArray := prog_11_method_6_code
def yX9_dayOf : MethodName := ⟨RX9, "dayOf", "(I)LHingeTown$Day;"⟩
abbrev cX9_today : ByteArray := prog_11_method_7_code
def yX9_today : MethodName := ⟨RX9, "today", "()LHingeTown$Day;"⟩
abbrev cX9_reckonSun : ByteArray := prog_11_method_8_code
def yX9_reckonSun : MethodName := ⟨RX9, "reckonSun", "(I)I"⟩
abbrev cX9_within : ByteArray := prog_11_method_9_code
def yX9_within : MethodName := ⟨RX9, "within", "(III)I"⟩
abbrev cX9_isQuiet : ByteArray := prog_11_method_10_code
def yX9_isQuiet : MethodName := ⟨RX9, "isQuiet", "(I)Z"⟩
abbrev cX9_hoursAwake : ByteArray := prog_11_method_11_code
def yX9_hoursAwake : MethodName := ⟨RX9, "hoursAwake", "(ILHingeTown$Day;)I"⟩
abbrev cX9_isAwake : ByteArray := prog_11_method_12_code
def yX9_isAwake : MethodName := ⟨RX9, "isAwake", "(ILHingeTown$Day;I)Z"⟩
abbrev cX9_whoIsAwake : ByteArray := prog_11_method_13_code
def yX9_whoIsAwake : MethodName := ⟨RX9, "whoIsAwake", "(LHingeTown$Day;I)I"⟩
abbrev cX9_hurtOf : ByteArray := prog_11_method_14_code
def yX9_hurtOf : MethodName := ⟨RX9, "hurtOf", "(IILHingeTown$Day;)I"⟩
abbrev cX9_harmOf : ByteArray := prog_11_method_15_code
def yX9_harmOf : MethodName := ⟨RX9, "harmOf", "(IILHingeTown$Day;)I"⟩
abbrev cX9_harmAt : ByteArray := prog_11_method_16_code
def yX9_harmAt : MethodName := ⟨RX9, "harmAt", "(ILHingeTown$Day;I)I"⟩
abbrev cX9_harmOn : ByteArray := prog_11_method_17_code
def yX9_harmOn : MethodName := ⟨RX9, "harmOn", "(ILHingeTown$Day;)I"⟩
abbrev cX9_harmBy : ByteArray := prog_11_method_18_code
def yX9_harmBy : MethodName := ⟨RX9, "harmBy", "(ILHingeTown$Day;)I"⟩
abbrev cX9_passHour : ByteArray := prog_11_method_19_code
def yX9_passHour : MethodName := ⟨RX9, "passHour", "()I"⟩
abbrev cX9_endDay : ByteArray := prog_11_method_20_code
def yX9_endDay : MethodName := ⟨RX9, "endDay", "()V"⟩
abbrev cX9_hoursTogether : ByteArray := prog_11_method_21_code
def yX9_hoursTogether : MethodName := ⟨RX9, "hoursTogether", "(IILHingeTown$Day;)I"⟩
abbrev cX9_canMeet : ByteArray := prog_11_method_22_code
def yX9_canMeet : MethodName := ⟨RX9, "canMeet", "(ILHingeTown$Day;)Z"⟩
abbrev cX9_worthOfMeets : ByteArray := prog_11_method_23_code
def yX9_worthOfMeets : MethodName := ⟨RX9, "worthOfMeets", "(ILHingeTown$Day;)I"⟩
abbrev cX9_blissOf : ByteArray := prog_11_method_24_code
def yX9_blissOf : MethodName := ⟨RX9, "blissOf", "(LHingeTown$Day;)I"⟩
abbrev cX9_joyOf : ByteArray := prog_11_method_25_code
def yX9_joyOf : MethodName := ⟨RX9, "joyOf", "(ILHingeTown$Day;)I"⟩
abbrev cX9_allServed : ByteArray := prog_11_method_26_code
def yX9_allServed : MethodName := ⟨RX9, "allServed", "(II)Z"⟩
abbrev cX9_chancesToMeet : ByteArray := prog_11_method_27_code
def yX9_chancesToMeet : MethodName := ⟨RX9, "chancesToMeet", "(ILHingeTown$Day;)I"⟩
abbrev cX9_hoursIf : ByteArray := prog_11_method_28_code
def yX9_hoursIf : MethodName := ⟨RX9, "hoursIf", "(ZILHingeTown$Day;)I"⟩
abbrev cX9_chancesIf : ByteArray := prog_11_method_29_code
def yX9_chancesIf : MethodName := ⟨RX9, "chancesIf", "(ZI)I"⟩
def RX10 : String := "HingeTown$Tape"
def TX10 : u_T := fun k => match k with
  | 0 => ("HingeTown$Tape", "bytes", "[B", true)
  | 1 => ("HingeTown$Tape", "length", "I", false)
  | 2 => ("HingeTown$Tape", "words", "[J", true)
  | 3 => ("HingeTown$Tape", "next", "I", false)
  | 4 => ("HingeTown$Tape", "kind", "I", false)
  | 5 => ("HingeTown$Tape", "place", "I", false)
  | 6 => ("HingeTown$Tape", "number", "I", false)
  | _ => ("HingeTown$Tape", "name", "J", false)
def tyX10 : Nat → FieldType := fun k => match k with
  | 0 => .array .byte
  | 1 => .int
  | 2 => .array .long
  | 3 => .int
  | 4 => .int
  | 5 => .int
  | 6 => .int
  | _ => .long
theorem nmX10 : ∀ a, a < 8 → ∀ b, b < 8 → a ≠ b → (TX10 a).2.1 ≠ (TX10 b).2.1 := by decide +kernel
theorem tyX10_ok : ∀ k, k < 8 → parseFieldDescriptor (TX10 k).2.2.1 = some (tyX10 k) := by decide +kernel
abbrev cX10_init : ByteArray := prog_12_method_1_code
def yX10_init : MethodName := ⟨RX10, "<init>", "()V"⟩
abbrev cX10_add : ByteArray := prog_12_method_2_code
def yX10_add : MethodName := ⟨RX10, "add", "(I)V"⟩
abbrev cX10_open : ByteArray := prog_12_method_3_code
def yX10_open : MethodName := ⟨RX10, "open", "()V"⟩
abbrev cX10_advance : ByteArray := prog_12_method_4_code
def yX10_advance : MethodName := ⟨RX10, "advance", "()V"⟩
abbrev cX10_readWord : ByteArray := prog_12_method_5_code
def yX10_readWord : MethodName := ⟨RX10, "readWord", "()V"⟩
abbrev cX10_readNumber : ByteArray := prog_12_method_6_code
def yX10_readNumber : MethodName := ⟨RX10, "readNumber", "()V"⟩
abbrev cX10_isLetterAt : ByteArray := prog_12_method_7_code
def yX10_isLetterAt : MethodName := ⟨RX10, "isLetterAt", "(I)Z"⟩
abbrev cX10_isDigitAt : ByteArray := prog_12_method_8_code
def yX10_isDigitAt : MethodName := ⟨RX10, "isDigitAt", "(I)Z"⟩
abbrev cX10_withLetter : ByteArray := prog_12_method_9_code
def yX10_withLetter : MethodName := ⟨RX10, "withLetter", "(JI)J"⟩
def RX11 : String := "HingeTown"
def TX11 : u_T := fun k => match k with
  | 0 => ("HingeTown", "tape", "LHingeTown$Tape;", true)
  | 1 => ("HingeTown", "reader", "LHingeTown$Reader;", true)
  | 2 => ("HingeTown", "street", "LHingeTown$Street;", true)
  | 3 => ("HingeTown", "acts", "LHingeTown$Acts;", true)
  | 4 => ("HingeTown", "choice", "LHingeTown$Choice;", true)
  | 5 => ("HingeTown", "lights", "LHingeTown$Lights;", true)
  | 6 => ("HingeTown", "boxes", "[I", true)
  | 7 => ("HingeTown", "boxesFull", "I", false)
  | 8 => ("HingeTown", "lying", "[I", true)
  | _ => ("HingeTown", "lyingCount", "I", false)
def tyX11 : Nat → FieldType := fun k => match k with
  | 0 => .object "HingeTown$Tape"
  | 1 => .object "HingeTown$Reader"
  | 2 => .object "HingeTown$Street"
  | 3 => .object "HingeTown$Acts"
  | 4 => .object "HingeTown$Choice"
  | 5 => .object "HingeTown$Lights"
  | 6 => .array .int
  | 7 => .int
  | 8 => .array .int
  | _ => .int
theorem nmX11 : ∀ a, a < 10 → ∀ b, b < 10 → a ≠ b → (TX11 a).2.1 ≠ (TX11 b).2.1 := by decide +kernel
theorem tyX11_ok : ∀ k, k < 10 → parseFieldDescriptor (TX11 k).2.2.1 = some (tyX11 k) := by decide +kernel
abbrev cX11_init : ByteArray := prog_1_method_1_code
def yX11_init : MethodName := ⟨RX11, "<init>", "()V"⟩
abbrev cX11_feed : ByteArray := prog_1_method_2_code
def yX11_feed : MethodName := ⟨RX11, "feed", "(IIIII)I"⟩
abbrev cX11_end : ByteArray := prog_1_method_3_code
def yX11_end : MethodName := ⟨RX11, "end", "(I)I"⟩
abbrev cX11_town : ByteArray := prog_1_method_4_code
def yX11_town : MethodName := ⟨RX11, "town", "()I"⟩
abbrev cX11_fault : ByteArray := prog_1_method_5_code
def yX11_fault : MethodName := ⟨RX11, "fault", "(I)I"⟩
abbrev cX11_person : ByteArray := prog_1_method_6_code
def yX11_person : MethodName := ⟨RX11, "person", "(II)I"⟩
abbrev cX11_meet : ByteArray := prog_1_method_7_code
def yX11_meet : MethodName := ⟨RX11, "meet", "(II)I"⟩
abbrev cX11_light : ByteArray := prog_1_method_8_code
def yX11_light : MethodName := ⟨RX11, "light", "(II)I"⟩
abbrev cX11_awake : ByteArray := prog_1_method_9_code
def yX11_awake : MethodName := ⟨RX11, "awake", "(II)I"⟩
abbrev cX11_noise : ByteArray := prog_1_method_10_code
def yX11_noise : MethodName := ⟨RX11, "noise", "(II)I"⟩
abbrev cX11_go : ByteArray := prog_1_method_11_code
def yX11_go : MethodName := ⟨RX11, "go", "(II)I"⟩
abbrev cX11_hush : ByteArray := prog_1_method_12_code
def yX11_hush : MethodName := ⟨RX11, "hush", "(I)I"⟩
abbrev cX11_hour : ByteArray := prog_1_method_13_code
def yX11_hour : MethodName := ⟨RX11, "hour", "()I"⟩
abbrev cX11_undo : ByteArray := prog_1_method_14_code
def yX11_undo : MethodName := ⟨RX11, "undo", "()Z"⟩
abbrev cX11_redo : ByteArray := prog_1_method_15_code
def yX11_redo : MethodName := ⟨RX11, "redo", "()Z"⟩
abbrev cX11_common : ByteArray := prog_1_method_16_code
def yX11_common : MethodName := ⟨RX11, "common", "(III)I"⟩
abbrev cX11_can : ByteArray := prog_1_method_17_code
def yX11_can : MethodName := ⟨RX11, "can", "(I)I"⟩
abbrev cX11_never : ByteArray := prog_1_method_18_code
def yX11_never : MethodName := ⟨RX11, "never", "(I)I"⟩
abbrev cX11_dates : ByteArray := prog_1_method_19_code
def yX11_dates : MethodName := ⟨RX11, "dates", "(I)I"⟩
abbrev cX11_harmed : ByteArray := prog_1_method_20_code
def yX11_harmed : MethodName := ⟨RX11, "harmed", "(II)I"⟩
abbrev cX11_bliss : ByteArray := prog_1_method_21_code
def yX11_bliss : MethodName := ⟨RX11, "bliss", "(I)I"⟩
abbrev cX11_cut : ByteArray := prog_1_method_22_code
def yX11_cut : MethodName := ⟨RX11, "cut", "()I"⟩
abbrev cX11_joy : ByteArray := prog_1_method_23_code
def yX11_joy : MethodName := ⟨RX11, "joy", "(II)I"⟩
abbrev cX11_lonely : ByteArray := prog_1_method_24_code
def yX11_lonely : MethodName := ⟨RX11, "lonely", "(I)I"⟩
abbrev cX11_hinges : ByteArray := prog_1_method_25_code
def yX11_hinges : MethodName := ⟨RX11, "hinges", "(I)I"⟩
abbrev cX11_loudest : ByteArray := prog_1_method_26_code
def yX11_loudest : MethodName := ⟨RX11, "loudest", "(II)I"⟩
abbrev cX11_rest : ByteArray := prog_1_method_27_code
def yX11_rest : MethodName := ⟨RX11, "rest", "()I"⟩
abbrev cX11_shop : ByteArray := prog_1_method_28_code
def yX11_shop : MethodName := ⟨RX11, "shop", "(I)I"⟩
abbrev cX11_post : ByteArray := prog_1_method_29_code
def yX11_post : MethodName := ⟨RX11, "post", "(II)I"⟩
abbrev cX11_spread : ByteArray := prog_1_method_30_code
def yX11_spread : MethodName := ⟨RX11, "spread", "(II)I"⟩
abbrev cX11_wake : ByteArray := prog_1_method_31_code
def yX11_wake : MethodName := ⟨RX11, "wake", "(III)I"⟩
abbrev cX11_odds : ByteArray := prog_1_method_32_code
def yX11_odds : MethodName := ⟨RX11, "odds", "(III)I"⟩
abbrev cX11_lies : ByteArray := prog_1_method_33_code
def yX11_lies : MethodName := ⟨RX11, "lies", "(I)I"⟩
abbrev cX11_lit : ByteArray := prog_1_method_34_code
def yX11_lit : MethodName := ⟨RX11, "lit", "(IIZ)I"⟩
abbrev cX11_untell : ByteArray := prog_1_method_35_code
def yX11_untell : MethodName := ⟨RX11, "untell", "(I)Z"⟩
abbrev cX11_later : ByteArray := prog_1_method_36_code
def yX11_later : MethodName := ⟨RX11, "later", "(I)I"⟩
abbrev cX11_fits : ByteArray := prog_1_method_37_code
def yX11_fits : MethodName := ⟨RX11, "fits", "(I)I"⟩
abbrev cX11_sure : ByteArray := prog_1_method_38_code
def yX11_sure : MethodName := ⟨RX11, "sure", "(II)I"⟩
abbrev cX11_ask : ByteArray := prog_1_method_39_code
def yX11_ask : MethodName := ⟨RX11, "ask", "(III)I"⟩
abbrev cX11_image : ByteArray := prog_1_method_40_code
def yX11_image : MethodName := ⟨RX11, "image", "(I)I"⟩
abbrev cX11_back : ByteArray := prog_1_method_41_code
def yX11_back : MethodName := ⟨RX11, "back", "(I)I"⟩
abbrev cX11_about : ByteArray := prog_1_method_42_code
def yX11_about : MethodName := ⟨RX11, "about", "(I)I"⟩
abbrev cX11_isDate : ByteArray := prog_1_method_43_code
def yX11_isDate : MethodName := ⟨RX11, "isDate", "(I)Z"⟩
abbrev cX11_isHour : ByteArray := prog_1_method_44_code
def yX11_isHour : MethodName := ⟨RX11, "isHour", "(I)Z"⟩
abbrev cX11_isHouse : ByteArray := prog_1_method_45_code
def yX11_isHouse : MethodName := ⟨RX11, "isHouse", "(I)Z"⟩
abbrev cX11_isBox : ByteArray := prog_1_method_46_code
def yX11_isBox : MethodName := ⟨RX11, "isBox", "(I)Z"⟩
abbrev cX11_greatestDivisor : ByteArray := prog_1_method_47_code
def yX11_greatestDivisor : MethodName := ⟨RX11, "greatestDivisor", "(II)I"⟩
def RX12 : String := "HingeTownModel"
def TX12 : u_T := fun k => match k with
  | 0 => ("HingeTownModel", "tape", "[I", true)
  | 1 => ("HingeTownModel", "taped", "I", false)
  | 2 => ("HingeTownModel", "fault", "I", false)
  | 3 => ("HingeTownModel", "faultPlace", "I", false)
  | 4 => ("HingeTownModel", "at", "I", false)
  | 5 => ("HingeTownModel", "size", "I", false)
  | 6 => ("HingeTownModel", "sort", "I", false)
  | 7 => ("HingeTownModel", "place", "I", false)
  | 8 => ("HingeTownModel", "number", "I", false)
  | 9 => ("HingeTownModel", "word", "J", false)
  | 10 => ("HingeTownModel", "nName", "[J", true)
  | 11 => ("HingeTownModel", "nStep", "[I", true)
  | 12 => ("HingeTownModel", "nArg", "[I", true)
  | 13 => ("HingeTownModel", "nMany", "[I", true)
  | 14 => ("HingeTownModel", "step", "[I", true)
  | 15 => ("HingeTownModel", "arg", "[I", true)
  | 16 => ("HingeTownModel", "steps", "[I", true)
  | 17 => ("HingeTownModel", "open", "[I", true)
  | 18 => ("HingeTownModel", "values", "[I", true)
  | 19 => ("HingeTownModel", "nHasForm", "[Z", true)
  | 20 => ("HingeTownModel", "hasForm", "[Z", true)
  | 21 => ("HingeTownModel", "form", "I", false)
  | 22 => ("HingeTownModel", "opens", "I", false)
  | 23 => ("HingeTownModel", "nUnits", "I", false)
  | 24 => ("HingeTownModel", "units", "I", false)
  | 25 => ("HingeTownModel", "ownUnits", "I", false)
  | 26 => ("HingeTownModel", "deep", "I", false)
  | 27 => ("HingeTownModel", "asks", "[I", true)
  | 28 => ("HingeTownModel", "nHouse", "[I", true)
  | 29 => ("HingeTownModel", "nSide", "[I", true)
  | 30 => ("HingeTownModel", "nWakeful", "[I", true)
  | 31 => ("HingeTownModel", "house", "[I", true)
  | 32 => ("HingeTownModel", "wakeful", "[I", true)
  | 33 => ("HingeTownModel", "nMeetA", "[I", true)
  | 34 => ("HingeTownModel", "nMeetB", "[I", true)
  | 35 => ("HingeTownModel", "nMeetHours", "[I", true)
  | 36 => ("HingeTownModel", "nMeetWorth", "[I", true)
  | 37 => ("HingeTownModel", "meetA", "[I", true)
  | 38 => ("HingeTownModel", "meetB", "[I", true)
  | 39 => ("HingeTownModel", "meetHours", "[I", true)
  | 40 => ("HingeTownModel", "meetWorth", "[I", true)
  | 41 => ("HingeTownModel", "nNoiseOf", "[I", true)
  | 42 => ("HingeTownModel", "nNoiseAt", "[I", true)
  | 43 => ("HingeTownModel", "nNoiseLoud", "[I", true)
  | 44 => ("HingeTownModel", "noiseOf", "[I", true)
  | 45 => ("HingeTownModel", "noiseAt", "[I", true)
  | 46 => ("HingeTownModel", "noiseLoud", "[I", true)
  | 47 => ("HingeTownModel", "nPersons", "I", false)
  | 48 => ("HingeTownModel", "nMeets", "I", false)
  | 49 => ("HingeTownModel", "nNoises", "I", false)
  | 50 => ("HingeTownModel", "nDate", "I", false)
  | 51 => ("HingeTownModel", "persons", "I", false)
  | 52 => ("HingeTownModel", "meets", "I", false)
  | 53 => ("HingeTownModel", "noises", "I", false)
  | 54 => ("HingeTownModel", "nHasDate", "Z", false)
  | 55 => ("HingeTownModel", "now", "[I", true)
  | 56 => ("HingeTownModel", "air", "[I", true)
  | 57 => ("HingeTownModel", "hoursOf", "[I", true)
  | 58 => ("HingeTownModel", "harms", "[I", true)
  | 59 => ("HingeTownModel", "were", "[I", true)
  | 60 => ("HingeTownModel", "acts", "I", false)
  | 61 => ("HingeTownModel", "undone", "I", false)
  | 62 => ("HingeTownModel", "lies", "[I", true)
  | 63 => ("HingeTownModel", "lain", "I", false)
  | 64 => ("HingeTownModel", "litHouse", "[I", true)
  | 65 => ("HingeTownModel", "litHour", "[I", true)
  | 66 => ("HingeTownModel", "litTold", "[I", true)
  | 67 => ("HingeTownModel", "litUntold", "[I", true)
  | 68 => ("HingeTownModel", "litIs", "[Z", true)
  | 69 => ("HingeTownModel", "lights", "I", false)
  | 70 => ("HingeTownModel", "time", "I", false)
  | 71 => ("HingeTownModel", "nightTally", "[I", true)
  | 72 => ("HingeTownModel", "lightTally", "[I", true)
  | 73 => ("HingeTownModel", "hasBox", "[Z", true)
  | _ => ("HingeTownModel", "boxes", "[I", true)
def tyX12 : Nat → FieldType := fun k => match k with
  | 0 => .array .int
  | 1 => .int
  | 2 => .int
  | 3 => .int
  | 4 => .int
  | 5 => .int
  | 6 => .int
  | 7 => .int
  | 8 => .int
  | 9 => .long
  | 10 => .array .long
  | 11 => .array .int
  | 12 => .array .int
  | 13 => .array .int
  | 14 => .array .int
  | 15 => .array .int
  | 16 => .array .int
  | 17 => .array .int
  | 18 => .array .int
  | 19 => .array .boolean
  | 20 => .array .boolean
  | 21 => .int
  | 22 => .int
  | 23 => .int
  | 24 => .int
  | 25 => .int
  | 26 => .int
  | 27 => .array .int
  | 28 => .array .int
  | 29 => .array .int
  | 30 => .array .int
  | 31 => .array .int
  | 32 => .array .int
  | 33 => .array .int
  | 34 => .array .int
  | 35 => .array .int
  | 36 => .array .int
  | 37 => .array .int
  | 38 => .array .int
  | 39 => .array .int
  | 40 => .array .int
  | 41 => .array .int
  | 42 => .array .int
  | 43 => .array .int
  | 44 => .array .int
  | 45 => .array .int
  | 46 => .array .int
  | 47 => .int
  | 48 => .int
  | 49 => .int
  | 50 => .int
  | 51 => .int
  | 52 => .int
  | 53 => .int
  | 54 => .boolean
  | 55 => .array .int
  | 56 => .array .int
  | 57 => .array .int
  | 58 => .array .int
  | 59 => .array .int
  | 60 => .int
  | 61 => .int
  | 62 => .array .int
  | 63 => .int
  | 64 => .array .int
  | 65 => .array .int
  | 66 => .array .int
  | 67 => .array .int
  | 68 => .array .boolean
  | 69 => .int
  | 70 => .int
  | 71 => .array .int
  | 72 => .array .int
  | 73 => .array .boolean
  | _ => .array .int
theorem nmX12 : ∀ a, a < 75 → ∀ b, b < 75 → a ≠ b → (TX12 a).2.1 ≠ (TX12 b).2.1 := by decide +kernel
theorem tyX12_ok : ∀ k, k < 75 → parseFieldDescriptor (TX12 k).2.2.1 = some (tyX12 k) := by decide +kernel
abbrev cX12_init : ByteArray := prog_14_method_1_code
def yX12_init : MethodName := ⟨RX12, "<init>", "()V"⟩
abbrev cX12_feed : ByteArray := prog_14_method_2_code
def yX12_feed : MethodName := ⟨RX12, "feed", "(IIIII)I"⟩
abbrev cX12_four : ByteArray := prog_14_method_3_code
def yX12_four : MethodName := ⟨RX12, "four", "(I)V"⟩
abbrev cX12_end : ByteArray := prog_14_method_4_code
def yX12_end : MethodName := ⟨RX12, "end", "(I)I"⟩
abbrev cX12_here : ByteArray := prog_14_method_5_code
def yX12_here : MethodName := ⟨RX12, "here", "(I)I"⟩
abbrev cX12_isLetter : ByteArray := prog_14_method_6_code
def yX12_isLetter : MethodName := ⟨RX12, "isLetter", "(I)Z"⟩
abbrev cX12_isDigit : ByteArray := prog_14_method_7_code
def yX12_isDigit : MethodName := ⟨RX12, "isDigit", "(I)Z"⟩
abbrev cX12_isSign : ByteArray := prog_14_method_8_code
def yX12_isSign : MethodName := ⟨RX12, "isSign", "(I)Z"⟩
abbrev cX12_token : ByteArray := prog_14_method_9_code
def yX12_token : MethodName := ⟨RX12, "token", "()V"⟩
abbrev cX12_wrong : ByteArray := prog_14_method_10_code
def yX12_wrong : MethodName := ⟨RX12, "wrong", "(I)V"⟩
abbrev cX12_isWord : ByteArray := prog_14_method_11_code
def yX12_isWord : MethodName := ⟨RX12, "isWord", "(J)Z"⟩
abbrev cX12_isOwn : ByteArray := prog_14_method_12_code
def yX12_isOwn : MethodName := ⟨RX12, "isOwn", "()Z"⟩
abbrev cX12_isName : ByteArray := prog_14_method_13_code
def yX12_isName : MethodName := ⟨RX12, "isName", "()Z"⟩
abbrev cX12_want : ByteArray := prog_14_method_14_code
def yX12_want : MethodName := ⟨RX12, "want", "(J)V"⟩
abbrev cX12_toldNumber : ByteArray := prog_14_method_15_code
def yX12_toldNumber : MethodName := ⟨RX12, "toldNumber", "(II)I"⟩
abbrev cX12_told : ByteArray := prog_14_method_16_code
def yX12_told : MethodName := ⟨RX12, "told", "(JII)I"⟩
abbrev cX12_find : ByteArray := prog_14_method_17_code
def yX12_find : MethodName := ⟨RX12, "find", "()I"⟩
abbrev cX12_oldPerson : ByteArray := prog_14_method_18_code
def yX12_oldPerson : MethodName := ⟨RX12, "oldPerson", "()I"⟩
abbrev cX12_add : ByteArray := prog_14_method_19_code
def yX12_add : MethodName := ⟨RX12, "add", "(II)V"⟩
abbrev cX12_tight : ByteArray := prog_14_method_20_code
def yX12_tight : MethodName := ⟨RX12, "tight", "(I)I"⟩
abbrev cX12_close : ByteArray := prog_14_method_21_code
def yX12_close : MethodName := ⟨RX12, "close", "(I)V"⟩
abbrev cX12_hasRelation : ByteArray := prog_14_method_22_code
def yX12_hasRelation : MethodName := ⟨RX12, "hasRelation", "()Z"⟩
abbrev cX12_mayNot : ByteArray := prog_14_method_23_code
def yX12_mayNot : MethodName := ⟨RX12, "mayNot", "()Z"⟩
abbrev cX12_asked : ByteArray := prog_14_method_24_code
def yX12_asked : MethodName := ⟨RX12, "asked", "()I"⟩
abbrev cX12_isFull : ByteArray := prog_14_method_25_code
def yX12_isFull : MethodName := ⟨RX12, "isFull", "()Z"⟩
abbrev cX12_countUnit : ByteArray := prog_14_method_26_code
def yX12_countUnit : MethodName := ⟨RX12, "countUnit", "()V"⟩
abbrev cX12_openUp : ByteArray := prog_14_method_27_code
def yX12_openUp : MethodName := ⟨RX12, "openUp", "(I)V"⟩
abbrev cX12_unit : ByteArray := prog_14_method_28_code
def yX12_unit : MethodName := ⟨RX12, "unit", "()V"⟩
abbrev cX12_sign : ByteArray := prog_14_method_29_code
def yX12_sign : MethodName := ⟨RX12, "sign", "()I"⟩
abbrev cX12_hasBracket : ByteArray := prog_14_method_30_code
def yX12_hasBracket : MethodName := ⟨RX12, "hasBracket", "()Z"⟩
abbrev cX12_formula : ByteArray := prog_14_method_31_code
def yX12_formula : MethodName := ⟨RX12, "formula", "(I)V"⟩
abbrev cX12_truth : ByteArray := prog_14_method_32_code
def yX12_truth : MethodName := ⟨RX12, "truth", "(Z)I"⟩
abbrev cX12_done : ByteArray := prog_14_method_33_code
def yX12_done : MethodName := ⟨RX12, "done", "(III)I"⟩
abbrev cX12_worked : ByteArray := prog_14_method_34_code
def yX12_worked : MethodName := ⟨RX12, "worked", "(IIII)I"⟩
abbrev cX12_readPerson : ByteArray := prog_14_method_35_code
def yX12_readPerson : MethodName := ⟨RX12, "readPerson", "()V"⟩
abbrev cX12_isMeetTold : ByteArray := prog_14_method_36_code
def yX12_isMeetTold : MethodName := ⟨RX12, "isMeetTold", "(II)Z"⟩
abbrev cX12_readMeet : ByteArray := prog_14_method_37_code
def yX12_readMeet : MethodName := ⟨RX12, "readMeet", "()V"⟩
abbrev cX12_isNoiseTold : ByteArray := prog_14_method_38_code
def yX12_isNoiseTold : MethodName := ⟨RX12, "isNoiseTold", "(II)Z"⟩
abbrev cX12_readNoise : ByteArray := prog_14_method_39_code
def yX12_readNoise : MethodName := ⟨RX12, "readNoise", "()V"⟩
abbrev cX12_readWakeful : ByteArray := prog_14_method_40_code
def yX12_readWakeful : MethodName := ⟨RX12, "readWakeful", "()V"⟩
abbrev cX12_readLine : ByteArray := prog_14_method_41_code
def yX12_readLine : MethodName := ⟨RX12, "readLine", "()V"⟩
abbrev cX12_readAll : ByteArray := prog_14_method_42_code
def yX12_readAll : MethodName := ⟨RX12, "readAll", "()V"⟩
abbrev cX12_town : ByteArray := prog_14_method_43_code
def yX12_town : MethodName := ⟨RX12, "town", "()I"⟩
abbrev cX12_fault : ByteArray := prog_14_method_44_code
def yX12_fault : MethodName := ⟨RX12, "fault", "(I)I"⟩
abbrev cX12_isIn : ByteArray := prog_14_method_45_code
def yX12_isIn : MethodName := ⟨RX12, "isIn", "(III)Z"⟩
abbrev cX12_isPerson : ByteArray := prog_14_method_46_code
def yX12_isPerson : MethodName := ⟨RX12, "isPerson", "(I)Z"⟩
abbrev cX12_isMeet : ByteArray := prog_14_method_47_code
def yX12_isMeet : MethodName := ⟨RX12, "isMeet", "(I)Z"⟩
abbrev cX12_isDate : ByteArray := prog_14_method_48_code
def yX12_isDate : MethodName := ⟨RX12, "isDate", "(I)Z"⟩
abbrev cX12_load : ByteArray := prog_14_method_49_code
def yX12_load : MethodName := ⟨RX12, "load", "()V"⟩
abbrev cX12_dawnOf : ByteArray := prog_14_method_50_code
def yX12_dawnOf : MethodName := ⟨RX12, "dawnOf", "(I)I"⟩
abbrev cX12_duskOf : ByteArray := prog_14_method_51_code
def yX12_duskOf : MethodName := ⟨RX12, "duskOf", "(I)I"⟩
abbrev cX12_askOf : ByteArray := prog_14_method_52_code
def yX12_askOf : MethodName := ⟨RX12, "askOf", "(IIII)V"⟩
abbrev cX12_apart : ByteArray := prog_14_method_53_code
def yX12_apart : MethodName := ⟨RX12, "apart", "(II)I"⟩
abbrev cX12_isHinge : ByteArray := prog_14_method_54_code
def yX12_isHinge : MethodName := ⟨RX12, "isHinge", "(II)Z"⟩
abbrev cX12_layDate : ByteArray := prog_14_method_55_code
def yX12_layDate : MethodName := ⟨RX12, "layDate", "(I)V"⟩
abbrev cX12_loadDate : ByteArray := prog_14_method_56_code
def yX12_loadDate : MethodName := ⟨RX12, "loadDate", "(I)V"⟩
abbrev cX12_isAwake : ByteArray := prog_14_method_57_code
def yX12_isAwake : MethodName := ⟨RX12, "isAwake", "(II)Z"⟩
abbrev cX12_harmBy : ByteArray := prog_14_method_58_code
def yX12_harmBy : MethodName := ⟨RX12, "harmBy", "(II)I"⟩
abbrev cX12_harmAt : ByteArray := prog_14_method_59_code
def yX12_harmAt : MethodName := ⟨RX12, "harmAt", "(II)I"⟩
abbrev cX12_harmOf : ByteArray := prog_14_method_60_code
def yX12_harmOf : MethodName := ⟨RX12, "harmOf", "(I)I"⟩
abbrev cX12_allHarm : ByteArray := prog_14_method_61_code
def yX12_allHarm : MethodName := ⟨RX12, "allHarm", "()I"⟩
abbrev cX12_members : ByteArray := prog_14_method_62_code
def yX12_members : MethodName := ⟨RX12, "members", "(I)I"⟩
abbrev cX12_commonOf : ByteArray := prog_14_method_63_code
def yX12_commonOf : MethodName := ⟨RX12, "commonOf", "(II)I"⟩
abbrev cX12_canMeet : ByteArray := prog_14_method_64_code
def yX12_canMeet : MethodName := ⟨RX12, "canMeet", "(I)Z"⟩
abbrev cX12_canSet : ByteArray := prog_14_method_65_code
def yX12_canSet : MethodName := ⟨RX12, "canSet", "()I"⟩
abbrev cX12_awakeSet : ByteArray := prog_14_method_66_code
def yX12_awakeSet : MethodName := ⟨RX12, "awakeSet", "(I)I"⟩
abbrev cX12_person : ByteArray := prog_14_method_67_code
def yX12_person : MethodName := ⟨RX12, "person", "(II)I"⟩
abbrev cX12_meet : ByteArray := prog_14_method_68_code
def yX12_meet : MethodName := ⟨RX12, "meet", "(II)I"⟩
abbrev cX12_light : ByteArray := prog_14_method_69_code
def yX12_light : MethodName := ⟨RX12, "light", "(II)I"⟩
abbrev cX12_awake : ByteArray := prog_14_method_70_code
def yX12_awake : MethodName := ⟨RX12, "awake", "(II)I"⟩
abbrev cX12_noise : ByteArray := prog_14_method_71_code
def yX12_noise : MethodName := ⟨RX12, "noise", "(II)I"⟩
abbrev cX12_act : ByteArray := prog_14_method_72_code
def yX12_act : MethodName := ⟨RX12, "act", "()V"⟩
abbrev cX12_exchange : ByteArray := prog_14_method_73_code
def yX12_exchange : MethodName := ⟨RX12, "exchange", "(I)V"⟩
abbrev cX12_go : ByteArray := prog_14_method_74_code
def yX12_go : MethodName := ⟨RX12, "go", "(II)I"⟩
abbrev cX12_hush : ByteArray := prog_14_method_75_code
def yX12_hush : MethodName := ⟨RX12, "hush", "(I)I"⟩
abbrev cX12_goDate : ByteArray := prog_14_method_76_code
def yX12_goDate : MethodName := ⟨RX12, "goDate", "()V"⟩
abbrev cX12_hour : ByteArray := prog_14_method_77_code
def yX12_hour : MethodName := ⟨RX12, "hour", "()I"⟩
abbrev cX12_undo : ByteArray := prog_14_method_78_code
def yX12_undo : MethodName := ⟨RX12, "undo", "()Z"⟩
abbrev cX12_redo : ByteArray := prog_14_method_79_code
def yX12_redo : MethodName := ⟨RX12, "redo", "()Z"⟩
abbrev cX12_common : ByteArray := prog_14_method_80_code
def yX12_common : MethodName := ⟨RX12, "common", "(III)I"⟩
abbrev cX12_can : ByteArray := prog_14_method_81_code
def yX12_can : MethodName := ⟨RX12, "can", "(I)I"⟩
abbrev cX12_canOn : ByteArray := prog_14_method_82_code
def yX12_canOn : MethodName := ⟨RX12, "canOn", "(II)Z"⟩
abbrev cX12_never : ByteArray := prog_14_method_83_code
def yX12_never : MethodName := ⟨RX12, "never", "(I)I"⟩
abbrev cX12_dates : ByteArray := prog_14_method_84_code
def yX12_dates : MethodName := ⟨RX12, "dates", "(I)I"⟩
abbrev cX12_harmed : ByteArray := prog_14_method_85_code
def yX12_harmed : MethodName := ⟨RX12, "harmed", "(II)I"⟩
abbrev cX12_blissHere : ByteArray := prog_14_method_86_code
def yX12_blissHere : MethodName := ⟨RX12, "blissHere", "()I"⟩
abbrev cX12_bliss : ByteArray := prog_14_method_87_code
def yX12_bliss : MethodName := ⟨RX12, "bliss", "(I)I"⟩
abbrev cX12_laySides : ByteArray := prog_14_method_88_code
def yX12_laySides : MethodName := ⟨RX12, "laySides", "(I)I"⟩
abbrev cX12_putSides : ByteArray := prog_14_method_89_code
def yX12_putSides : MethodName := ⟨RX12, "putSides", "()V"⟩
abbrev cX12_cut : ByteArray := prog_14_method_90_code
def yX12_cut : MethodName := ⟨RX12, "cut", "()I"⟩
abbrev cX12_joyHere : ByteArray := prog_14_method_91_code
def yX12_joyHere : MethodName := ⟨RX12, "joyHere", "(I)I"⟩
abbrev cX12_joy : ByteArray := prog_14_method_92_code
def yX12_joy : MethodName := ⟨RX12, "joy", "(II)I"⟩
abbrev cX12_lonely : ByteArray := prog_14_method_93_code
def yX12_lonely : MethodName := ⟨RX12, "lonely", "(I)I"⟩
abbrev cX12_hinges : ByteArray := prog_14_method_94_code
def yX12_hinges : MethodName := ⟨RX12, "hinges", "(I)I"⟩
abbrev cX12_loudest : ByteArray := prog_14_method_95_code
def yX12_loudest : MethodName := ⟨RX12, "loudest", "(II)I"⟩
abbrev cX12_bestSide : ByteArray := prog_14_method_96_code
def yX12_bestSide : MethodName := ⟨RX12, "bestSide", "(I)I"⟩
abbrev cX12_rest : ByteArray := prog_14_method_97_code
def yX12_rest : MethodName := ⟨RX12, "rest", "()I"⟩
abbrev cX12_areServed : ByteArray := prog_14_method_98_code
def yX12_areServed : MethodName := ⟨RX12, "areServed", "(I)Z"⟩
abbrev cX12_shop : ByteArray := prog_14_method_99_code
def yX12_shop : MethodName := ⟨RX12, "shop", "(I)I"⟩
abbrev cX12_haveMeet : ByteArray := prog_14_method_100_code
def yX12_haveMeet : MethodName := ⟨RX12, "haveMeet", "(II)Z"⟩
abbrev cX12_handedOn : ByteArray := prog_14_method_101_code
def yX12_handedOn : MethodName := ⟨RX12, "handedOn", "(II)I"⟩
abbrev cX12_goLetters : ByteArray := prog_14_method_102_code
def yX12_goLetters : MethodName := ⟨RX12, "goLetters", "(I)I"⟩
abbrev cX12_post : ByteArray := prog_14_method_103_code
def yX12_post : MethodName := ⟨RX12, "post", "(II)I"⟩
abbrev cX12_spread : ByteArray := prog_14_method_104_code
def yX12_spread : MethodName := ⟨RX12, "spread", "(II)I"⟩
abbrev cX12_wake : ByteArray := prog_14_method_105_code
def yX12_wake : MethodName := ⟨RX12, "wake", "(III)I"⟩
abbrev cX12_divisor : ByteArray := prog_14_method_106_code
def yX12_divisor : MethodName := ⟨RX12, "divisor", "(II)I"⟩
abbrev cX12_odds : ByteArray := prog_14_method_107_code
def yX12_odds : MethodName := ⟨RX12, "odds", "(III)I"⟩
abbrev cX12_lies : ByteArray := prog_14_method_108_code
def yX12_lies : MethodName := ⟨RX12, "lies", "(I)I"⟩
abbrev cX12_isLitPlace : ByteArray := prog_14_method_109_code
def yX12_isLitPlace : MethodName := ⟨RX12, "isLitPlace", "(II)Z"⟩
abbrev cX12_lit : ByteArray := prog_14_method_110_code
def yX12_lit : MethodName := ⟨RX12, "lit", "(IIZ)I"⟩
abbrev cX12_untell : ByteArray := prog_14_method_111_code
def yX12_untell : MethodName := ⟨RX12, "untell", "(I)Z"⟩
abbrev cX12_later : ByteArray := prog_14_method_112_code
def yX12_later : MethodName := ⟨RX12, "later", "(I)I"⟩
abbrev cX12_lightsAt : ByteArray := prog_14_method_113_code
def yX12_lightsAt : MethodName := ⟨RX12, "lightsAt", "(II)I"⟩
abbrev cX12_isFit : ByteArray := prog_14_method_114_code
def yX12_isFit : MethodName := ⟨RX12, "isFit", "(II)Z"⟩
abbrev cX12_layFits : ByteArray := prog_14_method_115_code
def yX12_layFits : MethodName := ⟨RX12, "layFits", "(II)I"⟩
abbrev cX12_fits : ByteArray := prog_14_method_116_code
def yX12_fits : MethodName := ⟨RX12, "fits", "(I)I"⟩
abbrev cX12_sure : ByteArray := prog_14_method_117_code
def yX12_sure : MethodName := ⟨RX12, "sure", "(II)I"⟩
abbrev cX12_ask : ByteArray := prog_14_method_118_code
def yX12_ask : MethodName := ⟨RX12, "ask", "(III)I"⟩
abbrev cX12_isBox : ByteArray := prog_14_method_119_code
def yX12_isBox : MethodName := ⟨RX12, "isBox", "(I)Z"⟩
abbrev cX12_image : ByteArray := prog_14_method_120_code
def yX12_image : MethodName := ⟨RX12, "image", "(I)I"⟩
abbrev cX12_back : ByteArray := prog_14_method_121_code
def yX12_back : MethodName := ⟨RX12, "back", "(I)I"⟩
abbrev cX12_about : ByteArray := prog_14_method_122_code
def yX12_about : MethodName := ⟨RX12, "about", "(I)I"⟩
def RJ6 : String := "java/lang/Integer"
def TJ6 : u_T := fun k => match k with
  | _ => ("", "", "", false)
def tyJ6 : Nat → FieldType := fun k => match k with
  | _ => .int
theorem nmJ6 : ∀ a, a < 0 → ∀ b, b < 0 → a ≠ b → (TJ6 a).2.1 ≠ (TJ6 b).2.1 := by decide +kernel
theorem tyJ6_ok : ∀ k, k < 0 → parseFieldDescriptor (TJ6 k).2.2.1 = some (tyJ6 k) := by decide +kernel
abbrev cJ6_bitCount_0f7a4 : ByteArray := prog_16_method_49_code
def yJ6_bitCount_0f7a4 : MethodName := ⟨RJ6, "bitCount", "(I)I"⟩
def RJ7 : String := "java/util/Arrays"
def TJ7 : u_T := fun k => match k with
  | _ => ("", "", "", false)
def tyJ7 : Nat → FieldType := fun k => match k with
  | _ => .int
theorem nmJ7 : ∀ a, a < 0 → ∀ b, b < 0 → a ≠ b → (TJ7 a).2.1 ≠ (TJ7 b).2.1 := by decide +kernel
theorem tyJ7_ok : ∀ k, k < 0 → parseFieldDescriptor (TJ7 k).2.2.1 = some (tyJ7 k) := by decide +kernel
abbrev cJ7_fill_53178 : ByteArray := prog_22_method_103_code
def yJ7_fill_53178 : MethodName := ⟨RJ7, "fill", "([II)V"⟩
def RL : String := "HingeTownLaw"
abbrev cL_law : ByteArray := code
def yL_law : MethodName := ⟨RL, "law", "([I)Z"⟩
end
section
/-! ===== base: memories, worlds, the judgement JR ===== -/
/-- a memory: ints, longs and places of cells, each by (place, slot or index) -/
abbrev Mem : Type := (Nat → Nat → Int32) × (Nat → Nat → Int64) × (Nat → Nat → Nat)
def sI (m : Mem) (r k : Nat) (v : Int32) : Mem := (va_up m.1 r (upd (m.1 r) k v), m.2)
def sL (m : Mem) (r k : Nat) (v : Int64) : Mem := (m.1, va_up m.2.1 r (vp_updL (m.2.1 r) k v), m.2.2)
def sR (m : Mem) (r k v : Nat) : Mem := (m.1, m.2.1, va_up m.2.2 r (va_up (m.2.2 r) k v))
/-- a whole row of ints at once -/
def sW (m : Mem) (r : Nat) (f : Nat → Int32) : Mem := (va_up m.1 r f, m.2)
/-- the launch's numbers: classes and slots; array classes of int, byte, long, boolean; addresses of the places -/
abbrev Gt : Type := va_G × (ClassId × ClassId × ClassId × ClassId) × (Nat → Nat)
abbrev jcl : List vw_C := [(RX0, TX0, 4), (RX1, TX1, 7), (RX2, TX2, 4), (RX3, TX3, 4), (RX3, TX3, 4), (RX5, TX5, 9), (RX6, TX6, 19), (RX7, TX7, 6), (RX8, TX8, 7), (RX9, TX9, 4), (RX10, TX10, 8), (RX11, TX11, 10), (RX12, TX12, 75)]
def tyG (G : Gt) : List (ClassId × FieldType) := [(G.2.1.1, .int), (G.2.1.2.1, .byte), (G.2.1.2.2.1, .long), (G.2.1.2.2.2, .boolean)]
def WT : List Cond := lw_tbl.filter goodWord
theorem wt_mem {w : Cond} (i : Nat) (h : lw_tbl[i]? = some w) (g : goodWord w = true) : w ∈ WT := List.mem_filter.mpr ⟨List.mem_of_getElem? h, g⟩
def isNest : Cond → Bool
  | .fieldLinkNest _ _ _ _ _ _ => true
  | .methodLinkNest _ _ _ _ => true
  | _ => false
def nestW : List Cond := tables_1.filter isNest
theorem nw_mem {w : Cond} (i : Nat) (h : tables_1[i]? = some w) (g : isNest w = true) : w ∈ nestW := List.mem_filter.mpr ⟨List.mem_of_getElem? h, g⟩
def NW (U : State) : Prop := ∀ w ∈ nestW, va_Nw w U
theorem NW.warm {s U : State} (hW : s.WarmedH U.vm) (h : NW s) : NW U := by
  intro w hw
  have h1 := (List.mem_filter.mp hw).2
  have h2 := h w hw
  cases w <;> first | exact va_Nw.warmF hW h2 | exact va_Nw.warmM hW h2 | (exact absurd h1 (by simp [isNest]))
theorem NW.calling {U : State} (g : JFrame) (mk : MethodId) (a : Array Value) (h : NW U) : NW (U.calling g mk a) := by
  intro w hw
  have h1 := (List.mem_filter.mp hw).2
  have h2 := h w hw
  cases w <;> first | exact va_Nw.same rfl (u := U) (U := U.calling g mk a) rfl h2 | (exact absurd h1 (by simp [isNest]))
/-- which cells are the world's -/
def inA (G : Gt) (n : Nat) : Nat → Prop := fun q => ∃ k, k < n ∧ q = G.2.2 k
abbrev Wf : Type := Gt → Mem → va_W
def rmv (lev : Nat) : Room := { frames := lev, cells := 0, slots := 0, locals := 64 * lev }
/-- what a method's end says: the answer, the new memory, what else is as it was -/
def Qo (G : Gt) (wf : Wf) (n : Nat) (o : Option Value × Mem) : Array Value → State → Outcome → State → Prop := fun _ st oc t => oc = .returned o.1 ∧ va_P G.1 jcl (wf G o.2) t.heap ∧ va_F (inA G n) st t
/-- what a method's start says -/
def Hd (G : Gt) (wf : Wf) (m : Mem) (U : State) : Prop := va_P G.1 jcl (wf G m) U.heap ∧ va_K G.1 jcl (tyG G) U ∧ NW U
/-- the contract of a method that makes nothing -/
def Ct (l : Launch) (G : Gt) (wf : Wf) (n : Nat) (y : MethodName) (bytes : ByteArray) (maxL : Nat) (ret : Option FieldType) (lev : Nat) (as : List Value) (m : Mem) (o : Option Value × Mem) : Prop :=
  Met l y (.code y bytes maxL ret :: WT) (rmv lev) (va_Pc as (Hd G wf m)) (Qo G wf n o) 0 0 (inA G n)
/-- the machine's context, and the world -/
abbrev Cx : Type := Program × Launch × Env × Room × State × MethodId × Array Value × List Frame × Method × Code
abbrev Zx : Type := Cx × Gt × Wf × Nat
def aL : Nat → List (Option Value) → List (Nat × Value)
  | _, [] => []
  | i, none :: r => aL (i + 1) r
  | i, some v :: r => (i, v) :: aL (i + 1) r
theorem aL_mem : ∀ (ls : List (Option Value)) (b i : Nat) (v : Value), (i, v) ∈ aL b ls ↔ ∃ j, i = b + j ∧ ls[j]? = some (some v)
  | [], b, i, v => by simp [aL]
  | none :: r, b, i, v => by
    rw [aL, aL_mem r]
    constructor
    · rintro ⟨j, rfl, h⟩
      exact ⟨j + 1, by omega, by simpa using h⟩
    · rintro ⟨j, rfl, h⟩
      cases j with
      | zero => simp at h
      | succ j => exact ⟨j, by omega, by simpa using h⟩
  | some w :: r, b, i, v => by
    rw [aL, List.mem_cons, aL_mem r]
    constructor
    · rintro (h | ⟨j, rfl, h⟩)
      · cases h
        exact ⟨0, rfl, by simp⟩
      · exact ⟨j + 1, by omega, by simpa using h⟩
    · rintro ⟨j, rfl, h⟩
      cases j with
      | zero =>
        left
        simp at h
        subst h
        rfl
      | succ j => exact Or.inr ⟨j, by omega, by simpa using h⟩
def lO (Ls : Array Slot) (ls : List (Option Value)) : Prop := lv_has Ls ls.length (aL 0 ls)
theorem lO_at {Ls : Array Slot} {ls : List (Option Value)} (h : lO Ls ls) {i : Nat} {v : Value} (hi : ls[i]? = some (some v)) : Ls[i]? = some (.val v) := h.2.2 (i, v) ((aL_mem ls 0 i v).mpr ⟨i, by omega, hi⟩)
/-- is there the first half of a long just ahead of this place? -/
def c2at (ls : List (Option Value)) : Nat → Bool
  | 0 => false
  | j + 1 => match ls[j]? with
    | some (some v) => v.category == 2
    | _ => false
theorem lO_set {ls : List (Option Value)} {i : Nat} {v : Value} {o : Option Value} (hi : ls[i]? = some o) (hc : c2at ls i = false) {Ls : Array Slot} (h : lv_has Ls ls.length ((i, v) :: (aL 0 ls).filter (fun q => !(q.1 == i) && !(q.1 + 1 == i && q.2.category == 2)))) : lO Ls (ls.set i (some v)) := by
  refine ⟨by rw [List.length_set]; exact h.1, h.2.1, fun q hq => h.2.2 q ?_⟩
  obtain ⟨j, w⟩ := q
  obtain ⟨j', e, hj⟩ := (aL_mem _ 0 j w).mp hq
  have e : j = j' := by omega
  subst e
  by_cases hji : j = i
  · subst hji
    rw [List.getElem?_set_self (List.getElem?_eq_some_iff.mp hi).1] at hj
    cases hj
    exact List.mem_cons_self
  · rw [List.getElem?_set_ne (Ne.symm hji)] at hj
    refine List.mem_cons_of_mem _ (List.mem_filter.mpr ⟨(aL_mem _ 0 j w).mpr ⟨j, by omega, hj⟩, ?_⟩)
    have h1 : (j == i) = false := by simpa using hji
    have h2 : (j + 1 == i && w.category == 2) = false := by
      by_cases h3 : j + 1 = i
      · subst h3
        simp only [c2at, hj] at hc
        simp [hc]
      · simp [h3]
    simp only [h1, h2]
    rfl
/-- fewer locals are known -/
def lwk : List (Option Value) → List (Option Value) → Prop
  | [], [] => True
  | none :: r, _ :: r' => lwk r r'
  | some v :: r, some v' :: r' => v = v' ∧ lwk r r'
  | _, _ => False
theorem lwk_get : ∀ (a b : List (Option Value)), lwk a b → a.length = b.length ∧ ∀ (i : Nat) (v : Value), a[i]? = some (some v) → b[i]? = some (some v)
  | [], [], _ => ⟨rfl, fun _ _ h => h⟩
  | none :: r, _ :: r', h => by
    obtain ⟨h1, h2⟩ := lwk_get r r' h
    refine ⟨by simp [h1], fun i v hi => ?_⟩
    cases i with
    | zero => simp at hi
    | succ i => simpa using h2 i v (by simpa using hi)
  | some v :: r, some v' :: r', h => by
    obtain ⟨h1, h2⟩ := lwk_get r r' h.2
    refine ⟨by simp [h1], fun i w hi => ?_⟩
    cases i with
    | zero =>
      have e := h.1
      subst e
      exact hi
    | succ i => simpa using h2 i w (by simpa using hi)
  | [], _ :: _, h => h.elim
  | some _ :: _, none :: _, h => h.elim
  | some _ :: _, [], h => h.elim
  | none :: _, [], h => h.elim
theorem lO_wk {a b : List (Option Value)} (hab : lwk a b) {Ls : Array Slot} (h : lO Ls b) : lO Ls a := by
  obtain ⟨h1, h2⟩ := lwk_get a b hab
  refine ⟨by rw [h1]; exact h.1, h.2.1, fun q hq => ?_⟩
  obtain ⟨j, w⟩ := q
  obtain ⟨j', e, hj⟩ := (aL_mem _ 0 j w).mp hq
  have e : j = j' := by omega
  subst e
  exact lO_at h (h2 j w hj)
/-- the judgement: from here the machine comes to the method's end with what E says, if E says something -/
def JR {α : Type} (Z : Zx) (cv : α → Option Value × Mem) (m : Mem) (pc : Nat) (ls : List (Option Value)) (st : List Value) (E : Option α) : Prop :=
  ∀ a, E = some a → ∀ (H : Heap) (locs : List Loc) (Ls : Array Slot), va_P Z.2.1.1 jcl (Z.2.2.1 Z.2.1 m) H → va_S (inA Z.2.1 Z.2.2.2) Z.1.2.2.2.2.1.heap H locs → lO Ls ls →
    W Z.1.1 Z.1.2.1 Z.1.2.2.1 Z.1.2.2.2.1 Z.1.2.2.2.2.1 Z.1.2.2.2.2.2.1 Z.1.2.2.2.2.2.2.1 Z.1.2.2.2.2.2.2.2.1 Z.1.2.2.2.2.2.2.2.2.1 Z.1.2.2.2.2.2.2.2.2.2 H locs 0 0
      (MQ Z.1.2.2.2.2.2.2.2.1 (Qo Z.2.1 Z.2.2.1 Z.2.2.2 (cv a)) Z.1.2.2.2.2.2.2.1 Z.1.2.2.2.2.1 0 0 (inA Z.2.1 Z.2.2.2)) (F0 Z.1.2.2.2.2.2.1 pc Ls st)
/-- what holds in a method's body -/
def OkX (Z : Zx) (cc : ByteArray) (own : String) (nL : Nat) (ret : Option FieldType) (lev : Nat) : Prop :=
  Z.1.1.tables.exec = Jvm.exec ∧ Z.1.2.2.2.2.2.2.2.2.2.code = cc ∧ Z.1.2.2.2.2.2.2.2.2.1.sig.returnType = ret ∧ Z.1.2.2.2.2.2.2.2.2.2.maxLocals = nL ∧ Z.1.2.2.2.2.1.vm.findClass own = some Z.1.2.2.2.2.2.1.cls ∧ (∀ w ∈ WT, w.before Z.1.2.2.2.2.2.2.1 Z.1.2.2.2.2.1 = true) ∧ va_K Z.2.1.1 jcl (tyG Z.2.1) Z.1.2.2.2.2.1 ∧ NW Z.1.2.2.2.2.1 ∧ Z.1.2.2.2.2.2.2.2.2.1.locks = false ∧ Z.1.2.2.2.1 = rmv lev ∧ (∀ m, va_D (inA Z.2.1 Z.2.2.2) (Z.2.2.1 Z.2.1 m))
/-- how an instruction is read: it, its length, the next place -/
def DD (cc : ByteArray) (pc : Nat) (i : Instr) (len nx : Nat) : Prop := decode cc pc = .ok (i, len) ∧ pc + len = nx
end
section
/-! ===== rules, an instruction each ===== -/
theorem j_iconst {α : Type} {Z : Zx} {cc : ByteArray} {own : String} {nL : Nat} {ret : Option FieldType} {lev : Nat} (h : OkX Z cc own nL ret lev) {cv : α → Option Value × Mem} {m : Mem} {pc nx : Nat} {ls : List (Option Value)} {st : List Value} {E : Option α} {n : Int} {v : Int32} (d : DD cc pc (.iconst n) 1 nx) (hv : Int32.ofInt n = v) (k : JR Z cv m nx ls (.int v :: st) E) : JR Z cv m pc ls (st) E := by
  obtain ⟨d, rfl⟩ := d
  intro a ha H locs Ls hP hS hl
  exact lv_iconst h.1 h.2.1 d hv (k a ha H locs Ls hP hS hl)
theorem j_bipush {α : Type} {Z : Zx} {cc : ByteArray} {own : String} {nL : Nat} {ret : Option FieldType} {lev : Nat} (h : OkX Z cc own nL ret lev) {cv : α → Option Value × Mem} {m : Mem} {pc nx : Nat} {ls : List (Option Value)} {st : List Value} {E : Option α} {n : Int} {v : Int32} (d : DD cc pc (.bipush n) 2 nx) (hv : (Int8.ofInt n).toInt32 = v) (k : JR Z cv m nx ls (.int v :: st) E) : JR Z cv m pc ls (st) E := by
  obtain ⟨d, rfl⟩ := d
  intro a ha H locs Ls hP hS hl
  exact lv_bipush h.1 h.2.1 d hv (k a ha H locs Ls hP hS hl)
theorem j_sipush {α : Type} {Z : Zx} {cc : ByteArray} {own : String} {nL : Nat} {ret : Option FieldType} {lev : Nat} (h : OkX Z cc own nL ret lev) {cv : α → Option Value × Mem} {m : Mem} {pc nx : Nat} {ls : List (Option Value)} {st : List Value} {E : Option α} {n : Int} {v : Int32} (d : DD cc pc (.sipush n) 3 nx) (hv : (Int16.ofInt n).toInt32 = v) (k : JR Z cv m nx ls (.int v :: st) E) : JR Z cv m pc ls (st) E := by
  obtain ⟨d, rfl⟩ := d
  intro a ha H locs Ls hP hS hl
  exact lv_sipush h.1 h.2.1 d hv (k a ha H locs Ls hP hS hl)
theorem j_lconst {α : Type} {Z : Zx} {cc : ByteArray} {own : String} {nL : Nat} {ret : Option FieldType} {lev : Nat} (h : OkX Z cc own nL ret lev) {cv : α → Option Value × Mem} {m : Mem} {pc nx : Nat} {ls : List (Option Value)} {st : List Value} {E : Option α} {n : Fin 2} {v : Int64} (d : DD cc pc (.lconst n) 1 nx) (hv : Int64.ofNat (n : Nat) = v) (k : JR Z cv m nx ls (.long v :: st) E) : JR Z cv m pc ls (st) E := by
  obtain ⟨d, rfl⟩ := d
  intro a ha H locs Ls hP hS hl
  exact lv_lconst h.1 h.2.1 d hv (k a ha H locs Ls hP hS hl)
theorem j_ldc {α : Type} {Z : Zx} {cc : ByteArray} {own : String} {nL : Nat} {ret : Option FieldType} {lev : Nat} (h : OkX Z cc own nL ret lev) {cv : α → Option Value × Mem} {m : Mem} {pc nx : Nat} {ls : List (Option Value)} {st : List Value} {E : Option α} {idx : Nat} {v : Int32} (d : DD cc pc (.ldc idx) 2 nx) (hw : Cond.constant own idx v ∈ WT) (k : JR Z cv m nx ls (.int v :: st) E) : JR Z cv m pc ls (st) E := by
  obtain ⟨d, rfl⟩ := d
  intro a ha H locs Ls hP hS hl
  exact lv_ldc h.1 h.2.1 h.2.2.2.2.1 (h.2.2.2.2.2.1 _ hw) d (k a ha H locs Ls hP hS hl)
theorem j_ldc2 {α : Type} {Z : Zx} {cc : ByteArray} {own : String} {nL : Nat} {ret : Option FieldType} {lev : Nat} (h : OkX Z cc own nL ret lev) {cv : α → Option Value × Mem} {m : Mem} {pc nx : Nat} {ls : List (Option Value)} {st : List Value} {E : Option α} {idx : Nat} {v : Int64} (d : DD cc pc (.ldc2_w idx) 3 nx) (hw : Cond.constantLong own idx v ∈ WT) (k : JR Z cv m nx ls (.long v :: st) E) : JR Z cv m pc ls (st) E := by
  obtain ⟨d, rfl⟩ := d
  intro a ha H locs Ls hP hS hl
  exact lv_ldc2 h.1 h.2.1 h.2.2.2.2.1 (h.2.2.2.2.2.1 _ hw) d (k a ha H locs Ls hP hS hl)
theorem j_iload_n {α : Type} {Z : Zx} {cc : ByteArray} {own : String} {nL : Nat} {ret : Option FieldType} {lev : Nat} (h : OkX Z cc own nL ret lev) {cv : α → Option Value × Mem} {m : Mem} {pc nx : Nat} {ls : List (Option Value)} {st : List Value} {E : Option α} {i : Fin 4} {x : Int32} (d : DD cc pc (.iload_n i) 1 nx) (hi : ls[(i : Nat)]? = some (some (.int x))) (k : JR Z cv m nx ls (.int x :: st) E) : JR Z cv m pc ls (st) E := by
  obtain ⟨d, rfl⟩ := d
  intro a ha H locs Ls hP hS hl
  exact lv_iload_n h.1 h.2.1 d rfl (lO_at hl hi) (k a ha H locs Ls hP hS hl)
theorem j_iload {α : Type} {Z : Zx} {cc : ByteArray} {own : String} {nL : Nat} {ret : Option FieldType} {lev : Nat} (h : OkX Z cc own nL ret lev) {cv : α → Option Value × Mem} {m : Mem} {pc nx : Nat} {ls : List (Option Value)} {st : List Value} {E : Option α} {i : Nat} {x : Int32} (d : DD cc pc (.iload i) 2 nx) (hi : ls[i]? = some (some (.int x))) (k : JR Z cv m nx ls (.int x :: st) E) : JR Z cv m pc ls (st) E := by
  obtain ⟨d, rfl⟩ := d
  intro a ha H locs Ls hP hS hl
  exact lv_iload h.1 h.2.1 d (lO_at hl hi) (k a ha H locs Ls hP hS hl)
theorem j_lload_n {α : Type} {Z : Zx} {cc : ByteArray} {own : String} {nL : Nat} {ret : Option FieldType} {lev : Nat} (h : OkX Z cc own nL ret lev) {cv : α → Option Value × Mem} {m : Mem} {pc nx : Nat} {ls : List (Option Value)} {st : List Value} {E : Option α} {i : Fin 4} {x : Int64} (d : DD cc pc (.lload_n i) 1 nx) (hi : ls[(i : Nat)]? = some (some (.long x))) (k : JR Z cv m nx ls (.long x :: st) E) : JR Z cv m pc ls (st) E := by
  obtain ⟨d, rfl⟩ := d
  intro a ha H locs Ls hP hS hl
  exact lv_lload_n h.1 h.2.1 d rfl (lO_at hl hi) (k a ha H locs Ls hP hS hl)
theorem j_lload {α : Type} {Z : Zx} {cc : ByteArray} {own : String} {nL : Nat} {ret : Option FieldType} {lev : Nat} (h : OkX Z cc own nL ret lev) {cv : α → Option Value × Mem} {m : Mem} {pc nx : Nat} {ls : List (Option Value)} {st : List Value} {E : Option α} {i : Nat} {x : Int64} (d : DD cc pc (.lload i) 2 nx) (hi : ls[i]? = some (some (.long x))) (k : JR Z cv m nx ls (.long x :: st) E) : JR Z cv m pc ls (st) E := by
  obtain ⟨d, rfl⟩ := d
  intro a ha H locs Ls hP hS hl
  exact lv_lload h.1 h.2.1 d (lO_at hl hi) (k a ha H locs Ls hP hS hl)
theorem j_aload_n {α : Type} {Z : Zx} {cc : ByteArray} {own : String} {nL : Nat} {ret : Option FieldType} {lev : Nat} (h : OkX Z cc own nL ret lev) {cv : α → Option Value × Mem} {m : Mem} {pc nx : Nat} {ls : List (Option Value)} {st : List Value} {E : Option α} {i : Fin 4} {x : Nat} (d : DD cc pc (.aload_n i) 1 nx) (hi : ls[(i : Nat)]? = some (some (.ref x))) (k : JR Z cv m nx ls (.ref x :: st) E) : JR Z cv m pc ls (st) E := by
  obtain ⟨d, rfl⟩ := d
  intro a ha H locs Ls hP hS hl
  exact lv_aload_n h.1 h.2.1 d rfl (lO_at hl hi) (k a ha H locs Ls hP hS hl)
theorem j_aload {α : Type} {Z : Zx} {cc : ByteArray} {own : String} {nL : Nat} {ret : Option FieldType} {lev : Nat} (h : OkX Z cc own nL ret lev) {cv : α → Option Value × Mem} {m : Mem} {pc nx : Nat} {ls : List (Option Value)} {st : List Value} {E : Option α} {i : Nat} {x : Nat} (d : DD cc pc (.aload i) 2 nx) (hi : ls[i]? = some (some (.ref x))) (k : JR Z cv m nx ls (.ref x :: st) E) : JR Z cv m pc ls (st) E := by
  obtain ⟨d, rfl⟩ := d
  intro a ha H locs Ls hP hS hl
  exact lv_aload h.1 h.2.1 d (lO_at hl hi) (k a ha H locs Ls hP hS hl)
theorem j_istore_n {α : Type} {Z : Zx} {cc : ByteArray} {own : String} {nL : Nat} {ret : Option FieldType} {lev : Nat} (h : OkX Z cc own nL ret lev) {cv : α → Option Value × Mem} {m : Mem} {pc nx : Nat} {ls : List (Option Value)} {st : List Value} {E : Option α} {i : Fin 4} {x : Int32} {o : Option Value} (d : DD cc pc (.istore_n i) 1 nx) (hi : ls[(i : Nat)]? = some o) (hc : c2at ls (i : Nat) = false) (k : JR Z cv m nx (ls.set (i : Nat) (some (.int x))) st E) : JR Z cv m pc ls (.int x :: st) E := by
  obtain ⟨d, rfl⟩ := d
  intro a ha H locs Ls hP hS hl
  exact lv_istore_n h.1 h.2.1 d rfl hl (List.getElem?_eq_some_iff.mp hi).1 rfl (fun Ls hl2 => k a ha H locs Ls hP hS (lO_set hi hc hl2))
theorem j_istore {α : Type} {Z : Zx} {cc : ByteArray} {own : String} {nL : Nat} {ret : Option FieldType} {lev : Nat} (h : OkX Z cc own nL ret lev) {cv : α → Option Value × Mem} {m : Mem} {pc nx : Nat} {ls : List (Option Value)} {st : List Value} {E : Option α} {i : Nat} {x : Int32} {o : Option Value} (d : DD cc pc (.istore i) 2 nx) (hi : ls[i]? = some o) (hc : c2at ls i = false) (k : JR Z cv m nx (ls.set i (some (.int x))) st E) : JR Z cv m pc ls (.int x :: st) E := by
  obtain ⟨d, rfl⟩ := d
  intro a ha H locs Ls hP hS hl
  exact lv_istore h.1 h.2.1 d hl (List.getElem?_eq_some_iff.mp hi).1 rfl (fun Ls hl2 => k a ha H locs Ls hP hS (lO_set hi hc hl2))
theorem j_astore_n {α : Type} {Z : Zx} {cc : ByteArray} {own : String} {nL : Nat} {ret : Option FieldType} {lev : Nat} (h : OkX Z cc own nL ret lev) {cv : α → Option Value × Mem} {m : Mem} {pc nx : Nat} {ls : List (Option Value)} {st : List Value} {E : Option α} {i : Fin 4} {x : Nat} {o : Option Value} (d : DD cc pc (.astore_n i) 1 nx) (hi : ls[(i : Nat)]? = some o) (hc : c2at ls (i : Nat) = false) (k : JR Z cv m nx (ls.set (i : Nat) (some (.ref x))) st E) : JR Z cv m pc ls (.ref x :: st) E := by
  obtain ⟨d, rfl⟩ := d
  intro a ha H locs Ls hP hS hl
  exact lv_astore_n h.1 h.2.1 d rfl hl (List.getElem?_eq_some_iff.mp hi).1 rfl (fun Ls hl2 => k a ha H locs Ls hP hS (lO_set hi hc hl2))
theorem j_astore {α : Type} {Z : Zx} {cc : ByteArray} {own : String} {nL : Nat} {ret : Option FieldType} {lev : Nat} (h : OkX Z cc own nL ret lev) {cv : α → Option Value × Mem} {m : Mem} {pc nx : Nat} {ls : List (Option Value)} {st : List Value} {E : Option α} {i : Nat} {x : Nat} {o : Option Value} (d : DD cc pc (.astore i) 2 nx) (hi : ls[i]? = some o) (hc : c2at ls i = false) (k : JR Z cv m nx (ls.set i (some (.ref x))) st E) : JR Z cv m pc ls (.ref x :: st) E := by
  obtain ⟨d, rfl⟩ := d
  intro a ha H locs Ls hP hS hl
  exact lv_astore h.1 h.2.1 d hl (List.getElem?_eq_some_iff.mp hi).1 rfl (fun Ls hl2 => k a ha H locs Ls hP hS (lO_set hi hc hl2))
theorem j_iinc {α : Type} {Z : Zx} {cc : ByteArray} {own : String} {nL : Nat} {ret : Option FieldType} {lev : Nat} (h : OkX Z cc own nL ret lev) {cv : α → Option Value × Mem} {m : Mem} {pc nx : Nat} {ls : List (Option Value)} {st : List Value} {E : Option α} {i : Nat} {n : Int} {x v : Int32} (d : DD cc pc (.iinc i n) 3 nx) (hi : ls[i]? = some (some (.int x))) (hv : x + Int32.ofInt n = v) (hc : c2at ls i = false) (k : JR Z cv m nx (ls.set i (some (.int v))) st E) : JR Z cv m pc ls st E := by
  obtain ⟨d, rfl⟩ := d
  intro a ha H locs Ls hP hS hl
  obtain ⟨kk, hk⟩ := List.getElem?_of_mem ((aL_mem ls 0 i (.int x)).mpr ⟨i, by omega, hi⟩)
  exact lv_iinc h.1 h.2.1 d hl hk hv (List.getElem?_eq_some_iff.mp hi).1 rfl (fun Ls hl2 => k a ha H locs Ls hP hS (lO_set hi hc hl2))
theorem j_iadd {α : Type} {Z : Zx} {cc : ByteArray} {own : String} {nL : Nat} {ret : Option FieldType} {lev : Nat} (h : OkX Z cc own nL ret lev) {cv : α → Option Value × Mem} {m : Mem} {pc nx : Nat} {ls : List (Option Value)} {st : List Value} {E : Option α} {x y : Int32} (d : DD cc pc (.iadd) 1 nx) (k : JR Z cv m nx ls (.int (x + y) :: st) E) : JR Z cv m pc ls (.int y :: .int x :: st) E := by
  obtain ⟨d, rfl⟩ := d
  intro a ha H locs Ls hP hS hl
  exact lv_iadd h.1 h.2.1 d (k a ha H locs Ls hP hS hl)
theorem j_isub {α : Type} {Z : Zx} {cc : ByteArray} {own : String} {nL : Nat} {ret : Option FieldType} {lev : Nat} (h : OkX Z cc own nL ret lev) {cv : α → Option Value × Mem} {m : Mem} {pc nx : Nat} {ls : List (Option Value)} {st : List Value} {E : Option α} {x y : Int32} (d : DD cc pc (.isub) 1 nx) (k : JR Z cv m nx ls (.int (x - y) :: st) E) : JR Z cv m pc ls (.int y :: .int x :: st) E := by
  obtain ⟨d, rfl⟩ := d
  intro a ha H locs Ls hP hS hl
  exact lv_isub h.1 h.2.1 d (k a ha H locs Ls hP hS hl)
theorem j_imul {α : Type} {Z : Zx} {cc : ByteArray} {own : String} {nL : Nat} {ret : Option FieldType} {lev : Nat} (h : OkX Z cc own nL ret lev) {cv : α → Option Value × Mem} {m : Mem} {pc nx : Nat} {ls : List (Option Value)} {st : List Value} {E : Option α} {x y : Int32} (d : DD cc pc (.imul) 1 nx) (k : JR Z cv m nx ls (.int (x * y) :: st) E) : JR Z cv m pc ls (.int y :: .int x :: st) E := by
  obtain ⟨d, rfl⟩ := d
  intro a ha H locs Ls hP hS hl
  exact lv_imul h.1 h.2.1 d (k a ha H locs Ls hP hS hl)
theorem j_iand {α : Type} {Z : Zx} {cc : ByteArray} {own : String} {nL : Nat} {ret : Option FieldType} {lev : Nat} (h : OkX Z cc own nL ret lev) {cv : α → Option Value × Mem} {m : Mem} {pc nx : Nat} {ls : List (Option Value)} {st : List Value} {E : Option α} {x y : Int32} (d : DD cc pc (.iand) 1 nx) (k : JR Z cv m nx ls (.int (x &&& y) :: st) E) : JR Z cv m pc ls (.int y :: .int x :: st) E := by
  obtain ⟨d, rfl⟩ := d
  intro a ha H locs Ls hP hS hl
  exact lv_iand h.1 h.2.1 d (k a ha H locs Ls hP hS hl)
theorem j_ior {α : Type} {Z : Zx} {cc : ByteArray} {own : String} {nL : Nat} {ret : Option FieldType} {lev : Nat} (h : OkX Z cc own nL ret lev) {cv : α → Option Value × Mem} {m : Mem} {pc nx : Nat} {ls : List (Option Value)} {st : List Value} {E : Option α} {x y : Int32} (d : DD cc pc (.ior) 1 nx) (k : JR Z cv m nx ls (.int (x ||| y) :: st) E) : JR Z cv m pc ls (.int y :: .int x :: st) E := by
  obtain ⟨d, rfl⟩ := d
  intro a ha H locs Ls hP hS hl
  exact lv_ior h.1 h.2.1 d (k a ha H locs Ls hP hS hl)
theorem j_ixor {α : Type} {Z : Zx} {cc : ByteArray} {own : String} {nL : Nat} {ret : Option FieldType} {lev : Nat} (h : OkX Z cc own nL ret lev) {cv : α → Option Value × Mem} {m : Mem} {pc nx : Nat} {ls : List (Option Value)} {st : List Value} {E : Option α} {x y : Int32} (d : DD cc pc (.ixor) 1 nx) (k : JR Z cv m nx ls (.int (x ^^^ y) :: st) E) : JR Z cv m pc ls (.int y :: .int x :: st) E := by
  obtain ⟨d, rfl⟩ := d
  intro a ha H locs Ls hP hS hl
  exact lv_ixor h.1 h.2.1 d (k a ha H locs Ls hP hS hl)
theorem j_ishl {α : Type} {Z : Zx} {cc : ByteArray} {own : String} {nL : Nat} {ret : Option FieldType} {lev : Nat} (h : OkX Z cc own nL ret lev) {cv : α → Option Value × Mem} {m : Mem} {pc nx : Nat} {ls : List (Option Value)} {st : List Value} {E : Option α} {x y : Int32} (d : DD cc pc (.ishl) 1 nx) (k : JR Z cv m nx ls (.int (x <<< (y &&& 31)) :: st) E) : JR Z cv m pc ls (.int y :: .int x :: st) E := by
  obtain ⟨d, rfl⟩ := d
  intro a ha H locs Ls hP hS hl
  exact lv_ishl h.1 h.2.1 d (k a ha H locs Ls hP hS hl)
theorem j_ishr {α : Type} {Z : Zx} {cc : ByteArray} {own : String} {nL : Nat} {ret : Option FieldType} {lev : Nat} (h : OkX Z cc own nL ret lev) {cv : α → Option Value × Mem} {m : Mem} {pc nx : Nat} {ls : List (Option Value)} {st : List Value} {E : Option α} {x y : Int32} (d : DD cc pc (.ishr) 1 nx) (k : JR Z cv m nx ls (.int (x >>> (y &&& 31)) :: st) E) : JR Z cv m pc ls (.int y :: .int x :: st) E := by
  obtain ⟨d, rfl⟩ := d
  intro a ha H locs Ls hP hS hl
  exact lv_ishr h.1 h.2.1 d (k a ha H locs Ls hP hS hl)
theorem j_ladd {α : Type} {Z : Zx} {cc : ByteArray} {own : String} {nL : Nat} {ret : Option FieldType} {lev : Nat} (h : OkX Z cc own nL ret lev) {cv : α → Option Value × Mem} {m : Mem} {pc nx : Nat} {ls : List (Option Value)} {st : List Value} {E : Option α} {x y : Int64} (d : DD cc pc (.ladd) 1 nx) (k : JR Z cv m nx ls (.long (x + y) :: st) E) : JR Z cv m pc ls (.long y :: .long x :: st) E := by
  obtain ⟨d, rfl⟩ := d
  intro a ha H locs Ls hP hS hl
  exact lv_ladd h.1 h.2.1 d (k a ha H locs Ls hP hS hl)
theorem j_lsub {α : Type} {Z : Zx} {cc : ByteArray} {own : String} {nL : Nat} {ret : Option FieldType} {lev : Nat} (h : OkX Z cc own nL ret lev) {cv : α → Option Value × Mem} {m : Mem} {pc nx : Nat} {ls : List (Option Value)} {st : List Value} {E : Option α} {x y : Int64} (d : DD cc pc (.lsub) 1 nx) (k : JR Z cv m nx ls (.long (x - y) :: st) E) : JR Z cv m pc ls (.long y :: .long x :: st) E := by
  obtain ⟨d, rfl⟩ := d
  intro a ha H locs Ls hP hS hl
  exact lv_lsub h.1 h.2.1 d (k a ha H locs Ls hP hS hl)
theorem j_lmul {α : Type} {Z : Zx} {cc : ByteArray} {own : String} {nL : Nat} {ret : Option FieldType} {lev : Nat} (h : OkX Z cc own nL ret lev) {cv : α → Option Value × Mem} {m : Mem} {pc nx : Nat} {ls : List (Option Value)} {st : List Value} {E : Option α} {x y : Int64} (d : DD cc pc (.lmul) 1 nx) (k : JR Z cv m nx ls (.long (x * y) :: st) E) : JR Z cv m pc ls (.long y :: .long x :: st) E := by
  obtain ⟨d, rfl⟩ := d
  intro a ha H locs Ls hP hS hl
  exact lv_lmul h.1 h.2.1 d (k a ha H locs Ls hP hS hl)
theorem j_lor {α : Type} {Z : Zx} {cc : ByteArray} {own : String} {nL : Nat} {ret : Option FieldType} {lev : Nat} (h : OkX Z cc own nL ret lev) {cv : α → Option Value × Mem} {m : Mem} {pc nx : Nat} {ls : List (Option Value)} {st : List Value} {E : Option α} {x y : Int64} (d : DD cc pc (.lor) 1 nx) (k : JR Z cv m nx ls (.long (x ||| y) :: st) E) : JR Z cv m pc ls (.long y :: .long x :: st) E := by
  obtain ⟨d, rfl⟩ := d
  intro a ha H locs Ls hP hS hl
  exact lv_lor h.1 h.2.1 d (k a ha H locs Ls hP hS hl)
theorem j_land {α : Type} {Z : Zx} {cc : ByteArray} {own : String} {nL : Nat} {ret : Option FieldType} {lev : Nat} (h : OkX Z cc own nL ret lev) {cv : α → Option Value × Mem} {m : Mem} {pc nx : Nat} {ls : List (Option Value)} {st : List Value} {E : Option α} {x y : Int64} (d : DD cc pc (.land) 1 nx) (k : JR Z cv m nx ls (.long (x &&& y) :: st) E) : JR Z cv m pc ls (.long y :: .long x :: st) E := by
  obtain ⟨d, rfl⟩ := d
  intro a ha H locs Ls hP hS hl
  exact lv_land h.1 h.2.1 d (k a ha H locs Ls hP hS hl)
theorem j_ineg {α : Type} {Z : Zx} {cc : ByteArray} {own : String} {nL : Nat} {ret : Option FieldType} {lev : Nat} (h : OkX Z cc own nL ret lev) {cv : α → Option Value × Mem} {m : Mem} {pc nx : Nat} {ls : List (Option Value)} {st : List Value} {E : Option α} {x : Int32} (d : DD cc pc (.ineg) 1 nx) (k : JR Z cv m nx ls (.int (-x) :: st) E) : JR Z cv m pc ls (.int x :: st) E := by
  obtain ⟨d, rfl⟩ := d
  intro a ha H locs Ls hP hS hl
  exact lv_ineg h.1 h.2.1 d (k a ha H locs Ls hP hS hl)
theorem j_lcmp {α : Type} {Z : Zx} {cc : ByteArray} {own : String} {nL : Nat} {ret : Option FieldType} {lev : Nat} (h : OkX Z cc own nL ret lev) {cv : α → Option Value × Mem} {m : Mem} {pc nx : Nat} {ls : List (Option Value)} {st : List Value} {E : Option α} {x y : Int64} (d : DD cc pc (.lcmp) 1 nx) (k : JR Z cv m nx ls (.int (lg_cmp x y) :: st) E) : JR Z cv m pc ls (.long y :: .long x :: st) E := by
  obtain ⟨d, rfl⟩ := d
  intro a ha H locs Ls hP hS hl
  exact W.lcmp h.1 h.2.1 d (k a ha H locs Ls hP hS hl)
theorem j_i2l {α : Type} {Z : Zx} {cc : ByteArray} {own : String} {nL : Nat} {ret : Option FieldType} {lev : Nat} (h : OkX Z cc own nL ret lev) {cv : α → Option Value × Mem} {m : Mem} {pc nx : Nat} {ls : List (Option Value)} {st : List Value} {E : Option α} {x : Int32} (d : DD cc pc (.i2l) 1 nx) (k : JR Z cv m nx ls (.long x.toInt64 :: st) E) : JR Z cv m pc ls (.int x :: st) E := by
  obtain ⟨d, rfl⟩ := d
  intro a ha H locs Ls hP hS hl
  exact lv_i2l h.1 h.2.1 d rfl (k a ha H locs Ls hP hS hl)
theorem j_l2i {α : Type} {Z : Zx} {cc : ByteArray} {own : String} {nL : Nat} {ret : Option FieldType} {lev : Nat} (h : OkX Z cc own nL ret lev) {cv : α → Option Value × Mem} {m : Mem} {pc nx : Nat} {ls : List (Option Value)} {st : List Value} {E : Option α} {x : Int64} (d : DD cc pc (.l2i) 1 nx) (k : JR Z cv m nx ls (.int x.toInt32 :: st) E) : JR Z cv m pc ls (.long x :: st) E := by
  obtain ⟨d, rfl⟩ := d
  intro a ha H locs Ls hP hS hl
  exact lv_l2i h.1 h.2.1 d rfl (k a ha H locs Ls hP hS hl)
theorem j_i2b {α : Type} {Z : Zx} {cc : ByteArray} {own : String} {nL : Nat} {ret : Option FieldType} {lev : Nat} (h : OkX Z cc own nL ret lev) {cv : α → Option Value × Mem} {m : Mem} {pc nx : Nat} {ls : List (Option Value)} {st : List Value} {E : Option α} {x : Int32} (d : DD cc pc (.i2b) 1 nx) (k : JR Z cv m nx ls (.int x.toInt8.toInt32 :: st) E) : JR Z cv m pc ls (.int x :: st) E := by
  obtain ⟨d, rfl⟩ := d
  intro a ha H locs Ls hP hS hl
  exact lv_i2b h.1 h.2.1 d rfl (k a ha H locs Ls hP hS hl)
theorem j_i2c {α : Type} {Z : Zx} {cc : ByteArray} {own : String} {nL : Nat} {ret : Option FieldType} {lev : Nat} (h : OkX Z cc own nL ret lev) {cv : α → Option Value × Mem} {m : Mem} {pc nx : Nat} {ls : List (Option Value)} {st : List Value} {E : Option α} {x : Int32} (d : DD cc pc (.i2c) 1 nx) (k : JR Z cv m nx ls (.int (x.toUInt32 % 65536).toInt32 :: st) E) : JR Z cv m pc ls (.int x :: st) E := by
  obtain ⟨d, rfl⟩ := d
  intro a ha H locs Ls hP hS hl
  exact lv_i2c h.1 h.2.1 d rfl (k a ha H locs Ls hP hS hl)
theorem j_iushr {α : Type} {Z : Zx} {cc : ByteArray} {own : String} {nL : Nat} {ret : Option FieldType} {lev : Nat} (h : OkX Z cc own nL ret lev) {cv : α → Option Value × Mem} {m : Mem} {pc nx : Nat} {ls : List (Option Value)} {st : List Value} {E : Option α} {x y : Int32} (d : DD cc pc (.iushr) 1 nx) (k : JR Z cv m nx ls (.int (x.toUInt32 >>> (y.toUInt32 &&& Int32.toUInt32 31)).toInt32 :: st) E) : JR Z cv m pc ls (.int y :: .int x :: st) E := by
  obtain ⟨d, rfl⟩ := d
  intro a ha H locs Ls hP hS hl
  exact lv_iushr h.1 h.2.1 d rfl (k a ha H locs Ls hP hS hl)
theorem j_lshl {α : Type} {Z : Zx} {cc : ByteArray} {own : String} {nL : Nat} {ret : Option FieldType} {lev : Nat} (h : OkX Z cc own nL ret lev) {cv : α → Option Value × Mem} {m : Mem} {pc nx : Nat} {ls : List (Option Value)} {st : List Value} {E : Option α} {x : Int64} {y : Int32} (d : DD cc pc (.lshl) 1 nx) (k : JR Z cv m nx ls (.long (x <<< (y.toInt64 &&& 63)) :: st) E) : JR Z cv m pc ls (.int y :: .long x :: st) E := by
  obtain ⟨d, rfl⟩ := d
  intro a ha H locs Ls hP hS hl
  exact lv_lshl h.1 h.2.1 d rfl (k a ha H locs Ls hP hS hl)
theorem j_dup {α : Type} {Z : Zx} {cc : ByteArray} {own : String} {nL : Nat} {ret : Option FieldType} {lev : Nat} (h : OkX Z cc own nL ret lev) {cv : α → Option Value × Mem} {m : Mem} {pc nx : Nat} {ls : List (Option Value)} {st : List Value} {E : Option α} {v : Value} (d : DD cc pc (.dup) 1 nx) (hv : v.category = 1) (k : JR Z cv m nx ls (v :: v :: st) E) : JR Z cv m pc ls (v :: st) E := by
  obtain ⟨d, rfl⟩ := d
  intro a ha H locs Ls hP hS hl
  exact lv_dup h.1 h.2.1 d hv (k a ha H locs Ls hP hS hl)
theorem j_pop {α : Type} {Z : Zx} {cc : ByteArray} {own : String} {nL : Nat} {ret : Option FieldType} {lev : Nat} (h : OkX Z cc own nL ret lev) {cv : α → Option Value × Mem} {m : Mem} {pc nx : Nat} {ls : List (Option Value)} {st : List Value} {E : Option α} {v : Value} (d : DD cc pc (.pop) 1 nx) (hv : v.category = 1) (k : JR Z cv m nx ls (st) E) : JR Z cv m pc ls (v :: st) E := by
  obtain ⟨d, rfl⟩ := d
  intro a ha H locs Ls hP hS hl
  exact lv_pop h.1 h.2.1 d hv (k a ha H locs Ls hP hS hl)
theorem j_dup2 {α : Type} {Z : Zx} {cc : ByteArray} {own : String} {nL : Nat} {ret : Option FieldType} {lev : Nat} (h : OkX Z cc own nL ret lev) {cv : α → Option Value × Mem} {m : Mem} {pc nx : Nat} {ls : List (Option Value)} {st : List Value} {E : Option α} {v w : Value} (d : DD cc pc (.dup2) 1 nx) (hv : v.category = 1) (hw : w.category = 1) (k : JR Z cv m nx ls (v :: w :: v :: w :: st) E) : JR Z cv m pc ls (v :: w :: st) E := by
  obtain ⟨d, rfl⟩ := d
  intro a ha H locs Ls hP hS hl
  exact lv_dup2_11 h.1 h.2.1 d hv hw (k a ha H locs Ls hP hS hl)
theorem j_dupx1 {α : Type} {Z : Zx} {cc : ByteArray} {own : String} {nL : Nat} {ret : Option FieldType} {lev : Nat} (h : OkX Z cc own nL ret lev) {cv : α → Option Value × Mem} {m : Mem} {pc nx : Nat} {ls : List (Option Value)} {st : List Value} {E : Option α} {v w : Value} (d : DD cc pc (.dup_x1) 1 nx) (hv : v.category = 1) (hw : w.category = 1) (k : JR Z cv m nx ls (v :: w :: v :: st) E) : JR Z cv m pc ls (v :: w :: st) E := by
  obtain ⟨d, rfl⟩ := d
  intro a ha H locs Ls hP hS hl
  exact lv_dup_x1 h.1 h.2.1 d hv hw (k a ha H locs Ls hP hS hl)
theorem j_dupx2 {α : Type} {Z : Zx} {cc : ByteArray} {own : String} {nL : Nat} {ret : Option FieldType} {lev : Nat} (h : OkX Z cc own nL ret lev) {cv : α → Option Value × Mem} {m : Mem} {pc nx : Nat} {ls : List (Option Value)} {st : List Value} {E : Option α} {v w z : Value} (d : DD cc pc (.dup_x2) 1 nx) (hv : v.category = 1) (hw : w.category = 1) (hz : z.category = 1) (k : JR Z cv m nx ls (v :: w :: z :: v :: st) E) : JR Z cv m pc ls (v :: w :: z :: st) E := by
  obtain ⟨d, rfl⟩ := d
  intro a ha H locs Ls hP hS hl
  exact lv_dup_x2 h.1 h.2.1 d hv hw hz (k a ha H locs Ls hP hS hl)
theorem j_icmp_eqB {α : Type} {Z : Zx} {cc : ByteArray} {own : String} {nL : Nat} {ret : Option FieldType} {lev : Nat} (h : OkX Z cc own nL ret lev) {cv : α → Option Value × Mem} {m : Mem} {pc nx : Nat} {ls : List (Option Value)} {st : List Value} {E : Option α} {x y : Int32} {off : Int} {tgt : Nat} (d : DD cc pc (.if_icmp .eq off) 3 nx) (ht : (pc : Int) + off = (tgt : Int)) (kt : x = y → JR Z cv m tgt ls st E) (kf : ¬ (x = y) → JR Z cv m nx ls st E) : JR Z cv m pc ls (.int y :: .int x :: st) E := by
  obtain ⟨d, rfl⟩ := d
  intro a ha H locs Ls hP hS hl
  exact lv_icmp_eq h.1 h.2.1 d ht (fun c => kt c a ha H locs Ls hP hS hl) (fun c => kf (by simpa using c) a ha H locs Ls hP hS hl)
theorem j_icmp_eq {α : Type} {Z : Zx} {cc : ByteArray} {own : String} {nL : Nat} {ret : Option FieldType} {lev : Nat} (h : OkX Z cc own nL ret lev) {cv : α → Option Value × Mem} {m : Mem} {pc nx : Nat} {ls : List (Option Value)} {st : List Value} {E1 E2 : Option α} {x y : Int32} {off : Int} {tgt : Nat} (d : DD cc pc (.if_icmp .eq off) 3 nx) (ht : (pc : Int) + off = (tgt : Int)) (kt : x = y → JR Z cv m tgt ls st E1) (kf : ¬ (x = y) → JR Z cv m nx ls st E2) : JR Z cv m pc ls (.int y :: .int x :: st) (if x = y then E1 else E2) :=
  j_icmp_eqB h d ht (fun c => by rw [if_pos c]; exact kt c) (fun c => by rw [if_neg c]; exact kf c)
theorem j_icmp_neB {α : Type} {Z : Zx} {cc : ByteArray} {own : String} {nL : Nat} {ret : Option FieldType} {lev : Nat} (h : OkX Z cc own nL ret lev) {cv : α → Option Value × Mem} {m : Mem} {pc nx : Nat} {ls : List (Option Value)} {st : List Value} {E : Option α} {x y : Int32} {off : Int} {tgt : Nat} (d : DD cc pc (.if_icmp .ne off) 3 nx) (ht : (pc : Int) + off = (tgt : Int)) (kt : ¬ x = y → JR Z cv m tgt ls st E) (kf : ¬ (¬ x = y) → JR Z cv m nx ls st E) : JR Z cv m pc ls (.int y :: .int x :: st) E := by
  obtain ⟨d, rfl⟩ := d
  intro a ha H locs Ls hP hS hl
  exact lv_icmp_ne h.1 h.2.1 d ht (fun c => kt c a ha H locs Ls hP hS hl) (fun c => kf (fun q => q c) a ha H locs Ls hP hS hl)
theorem j_icmp_ne {α : Type} {Z : Zx} {cc : ByteArray} {own : String} {nL : Nat} {ret : Option FieldType} {lev : Nat} (h : OkX Z cc own nL ret lev) {cv : α → Option Value × Mem} {m : Mem} {pc nx : Nat} {ls : List (Option Value)} {st : List Value} {E1 E2 : Option α} {x y : Int32} {off : Int} {tgt : Nat} (d : DD cc pc (.if_icmp .ne off) 3 nx) (ht : (pc : Int) + off = (tgt : Int)) (kt : ¬ x = y → JR Z cv m tgt ls st E2) (kf : x = y → JR Z cv m nx ls st E1) : JR Z cv m pc ls (.int y :: .int x :: st) (if x = y then E1 else E2) :=
  j_icmp_neB h d ht (fun c => by rw [if_neg c]; exact kt c) (fun c => by rw [if_pos (Classical.not_not.mp c)]; exact kf (Classical.not_not.mp c))
theorem j_icmp_ltB {α : Type} {Z : Zx} {cc : ByteArray} {own : String} {nL : Nat} {ret : Option FieldType} {lev : Nat} (h : OkX Z cc own nL ret lev) {cv : α → Option Value × Mem} {m : Mem} {pc nx : Nat} {ls : List (Option Value)} {st : List Value} {E : Option α} {x y : Int32} {off : Int} {tgt : Nat} (d : DD cc pc (.if_icmp .lt off) 3 nx) (ht : (pc : Int) + off = (tgt : Int)) (kt : x < y → JR Z cv m tgt ls st E) (kf : ¬ (x < y) → JR Z cv m nx ls st E) : JR Z cv m pc ls (.int y :: .int x :: st) E := by
  obtain ⟨d, rfl⟩ := d
  intro a ha H locs Ls hP hS hl
  exact lv_icmp_lt h.1 h.2.1 d ht (fun c => kt c a ha H locs Ls hP hS hl) (fun c => kf (by simpa using c) a ha H locs Ls hP hS hl)
theorem j_icmp_lt {α : Type} {Z : Zx} {cc : ByteArray} {own : String} {nL : Nat} {ret : Option FieldType} {lev : Nat} (h : OkX Z cc own nL ret lev) {cv : α → Option Value × Mem} {m : Mem} {pc nx : Nat} {ls : List (Option Value)} {st : List Value} {E1 E2 : Option α} {x y : Int32} {off : Int} {tgt : Nat} (d : DD cc pc (.if_icmp .lt off) 3 nx) (ht : (pc : Int) + off = (tgt : Int)) (kt : x < y → JR Z cv m tgt ls st E1) (kf : ¬ (x < y) → JR Z cv m nx ls st E2) : JR Z cv m pc ls (.int y :: .int x :: st) (if x < y then E1 else E2) :=
  j_icmp_ltB h d ht (fun c => by rw [if_pos c]; exact kt c) (fun c => by rw [if_neg c]; exact kf c)
theorem j_icmp_geB {α : Type} {Z : Zx} {cc : ByteArray} {own : String} {nL : Nat} {ret : Option FieldType} {lev : Nat} (h : OkX Z cc own nL ret lev) {cv : α → Option Value × Mem} {m : Mem} {pc nx : Nat} {ls : List (Option Value)} {st : List Value} {E : Option α} {x y : Int32} {off : Int} {tgt : Nat} (d : DD cc pc (.if_icmp .ge off) 3 nx) (ht : (pc : Int) + off = (tgt : Int)) (kt : y ≤ x → JR Z cv m tgt ls st E) (kf : ¬ (y ≤ x) → JR Z cv m nx ls st E) : JR Z cv m pc ls (.int y :: .int x :: st) E := by
  obtain ⟨d, rfl⟩ := d
  intro a ha H locs Ls hP hS hl
  exact lv_icmp_ge h.1 h.2.1 d ht (fun c => kt c a ha H locs Ls hP hS hl) (fun c => kf (by simpa using c) a ha H locs Ls hP hS hl)
theorem j_icmp_ge {α : Type} {Z : Zx} {cc : ByteArray} {own : String} {nL : Nat} {ret : Option FieldType} {lev : Nat} (h : OkX Z cc own nL ret lev) {cv : α → Option Value × Mem} {m : Mem} {pc nx : Nat} {ls : List (Option Value)} {st : List Value} {E1 E2 : Option α} {x y : Int32} {off : Int} {tgt : Nat} (d : DD cc pc (.if_icmp .ge off) 3 nx) (ht : (pc : Int) + off = (tgt : Int)) (kt : y ≤ x → JR Z cv m tgt ls st E1) (kf : ¬ (y ≤ x) → JR Z cv m nx ls st E2) : JR Z cv m pc ls (.int y :: .int x :: st) (if y ≤ x then E1 else E2) :=
  j_icmp_geB h d ht (fun c => by rw [if_pos c]; exact kt c) (fun c => by rw [if_neg c]; exact kf c)
theorem j_icmp_gtB {α : Type} {Z : Zx} {cc : ByteArray} {own : String} {nL : Nat} {ret : Option FieldType} {lev : Nat} (h : OkX Z cc own nL ret lev) {cv : α → Option Value × Mem} {m : Mem} {pc nx : Nat} {ls : List (Option Value)} {st : List Value} {E : Option α} {x y : Int32} {off : Int} {tgt : Nat} (d : DD cc pc (.if_icmp .gt off) 3 nx) (ht : (pc : Int) + off = (tgt : Int)) (kt : y < x → JR Z cv m tgt ls st E) (kf : ¬ (y < x) → JR Z cv m nx ls st E) : JR Z cv m pc ls (.int y :: .int x :: st) E := by
  obtain ⟨d, rfl⟩ := d
  intro a ha H locs Ls hP hS hl
  exact lv_icmp_gt h.1 h.2.1 d ht (fun c => kt c a ha H locs Ls hP hS hl) (fun c => kf (by simpa using c) a ha H locs Ls hP hS hl)
theorem j_icmp_gt {α : Type} {Z : Zx} {cc : ByteArray} {own : String} {nL : Nat} {ret : Option FieldType} {lev : Nat} (h : OkX Z cc own nL ret lev) {cv : α → Option Value × Mem} {m : Mem} {pc nx : Nat} {ls : List (Option Value)} {st : List Value} {E1 E2 : Option α} {x y : Int32} {off : Int} {tgt : Nat} (d : DD cc pc (.if_icmp .gt off) 3 nx) (ht : (pc : Int) + off = (tgt : Int)) (kt : y < x → JR Z cv m tgt ls st E1) (kf : ¬ (y < x) → JR Z cv m nx ls st E2) : JR Z cv m pc ls (.int y :: .int x :: st) (if y < x then E1 else E2) :=
  j_icmp_gtB h d ht (fun c => by rw [if_pos c]; exact kt c) (fun c => by rw [if_neg c]; exact kf c)
theorem j_icmp_leB {α : Type} {Z : Zx} {cc : ByteArray} {own : String} {nL : Nat} {ret : Option FieldType} {lev : Nat} (h : OkX Z cc own nL ret lev) {cv : α → Option Value × Mem} {m : Mem} {pc nx : Nat} {ls : List (Option Value)} {st : List Value} {E : Option α} {x y : Int32} {off : Int} {tgt : Nat} (d : DD cc pc (.if_icmp .le off) 3 nx) (ht : (pc : Int) + off = (tgt : Int)) (kt : x ≤ y → JR Z cv m tgt ls st E) (kf : ¬ (x ≤ y) → JR Z cv m nx ls st E) : JR Z cv m pc ls (.int y :: .int x :: st) E := by
  obtain ⟨d, rfl⟩ := d
  intro a ha H locs Ls hP hS hl
  exact lv_icmp_le h.1 h.2.1 d ht (fun c => kt c a ha H locs Ls hP hS hl) (fun c => kf (by simpa using c) a ha H locs Ls hP hS hl)
theorem j_icmp_le {α : Type} {Z : Zx} {cc : ByteArray} {own : String} {nL : Nat} {ret : Option FieldType} {lev : Nat} (h : OkX Z cc own nL ret lev) {cv : α → Option Value × Mem} {m : Mem} {pc nx : Nat} {ls : List (Option Value)} {st : List Value} {E1 E2 : Option α} {x y : Int32} {off : Int} {tgt : Nat} (d : DD cc pc (.if_icmp .le off) 3 nx) (ht : (pc : Int) + off = (tgt : Int)) (kt : x ≤ y → JR Z cv m tgt ls st E1) (kf : ¬ (x ≤ y) → JR Z cv m nx ls st E2) : JR Z cv m pc ls (.int y :: .int x :: st) (if x ≤ y then E1 else E2) :=
  j_icmp_leB h d ht (fun c => by rw [if_pos c]; exact kt c) (fun c => by rw [if_neg c]; exact kf c)
theorem j_if_eqB {α : Type} {Z : Zx} {cc : ByteArray} {own : String} {nL : Nat} {ret : Option FieldType} {lev : Nat} (h : OkX Z cc own nL ret lev) {cv : α → Option Value × Mem} {m : Mem} {pc nx : Nat} {ls : List (Option Value)} {st : List Value} {E : Option α} {x : Int32} {off : Int} {tgt : Nat} (d : DD cc pc (.ifCond .eq off) 3 nx) (ht : (pc : Int) + off = (tgt : Int)) (kt : x = 0 → JR Z cv m tgt ls st E) (kf : ¬ (x = 0) → JR Z cv m nx ls st E) : JR Z cv m pc ls (.int x :: st) E := by
  obtain ⟨d, rfl⟩ := d
  intro a ha H locs Ls hP hS hl
  exact lv_if_eq h.1 h.2.1 d ht (fun c => kt c a ha H locs Ls hP hS hl) (fun c => kf (by simpa using c) a ha H locs Ls hP hS hl)
theorem j_if_eq {α : Type} {Z : Zx} {cc : ByteArray} {own : String} {nL : Nat} {ret : Option FieldType} {lev : Nat} (h : OkX Z cc own nL ret lev) {cv : α → Option Value × Mem} {m : Mem} {pc nx : Nat} {ls : List (Option Value)} {st : List Value} {E1 E2 : Option α} {x : Int32} {off : Int} {tgt : Nat} (d : DD cc pc (.ifCond .eq off) 3 nx) (ht : (pc : Int) + off = (tgt : Int)) (kt : x = 0 → JR Z cv m tgt ls st E1) (kf : ¬ (x = 0) → JR Z cv m nx ls st E2) : JR Z cv m pc ls (.int x :: st) (if x = 0 then E1 else E2) :=
  j_if_eqB h d ht (fun c => by rw [if_pos c]; exact kt c) (fun c => by rw [if_neg c]; exact kf c)
theorem j_if_neB {α : Type} {Z : Zx} {cc : ByteArray} {own : String} {nL : Nat} {ret : Option FieldType} {lev : Nat} (h : OkX Z cc own nL ret lev) {cv : α → Option Value × Mem} {m : Mem} {pc nx : Nat} {ls : List (Option Value)} {st : List Value} {E : Option α} {x : Int32} {off : Int} {tgt : Nat} (d : DD cc pc (.ifCond .ne off) 3 nx) (ht : (pc : Int) + off = (tgt : Int)) (kt : ¬ x = 0 → JR Z cv m tgt ls st E) (kf : ¬ (¬ x = 0) → JR Z cv m nx ls st E) : JR Z cv m pc ls (.int x :: st) E := by
  obtain ⟨d, rfl⟩ := d
  intro a ha H locs Ls hP hS hl
  exact lv_if_ne h.1 h.2.1 d ht (fun c => kt c a ha H locs Ls hP hS hl) (fun c => kf (fun q => q c) a ha H locs Ls hP hS hl)
theorem j_if_ne {α : Type} {Z : Zx} {cc : ByteArray} {own : String} {nL : Nat} {ret : Option FieldType} {lev : Nat} (h : OkX Z cc own nL ret lev) {cv : α → Option Value × Mem} {m : Mem} {pc nx : Nat} {ls : List (Option Value)} {st : List Value} {E1 E2 : Option α} {x : Int32} {off : Int} {tgt : Nat} (d : DD cc pc (.ifCond .ne off) 3 nx) (ht : (pc : Int) + off = (tgt : Int)) (kt : ¬ x = 0 → JR Z cv m tgt ls st E2) (kf : x = 0 → JR Z cv m nx ls st E1) : JR Z cv m pc ls (.int x :: st) (if x = 0 then E1 else E2) :=
  j_if_neB h d ht (fun c => by rw [if_neg c]; exact kt c) (fun c => by rw [if_pos (Classical.not_not.mp c)]; exact kf (Classical.not_not.mp c))
theorem j_if_ltB {α : Type} {Z : Zx} {cc : ByteArray} {own : String} {nL : Nat} {ret : Option FieldType} {lev : Nat} (h : OkX Z cc own nL ret lev) {cv : α → Option Value × Mem} {m : Mem} {pc nx : Nat} {ls : List (Option Value)} {st : List Value} {E : Option α} {x : Int32} {off : Int} {tgt : Nat} (d : DD cc pc (.ifCond .lt off) 3 nx) (ht : (pc : Int) + off = (tgt : Int)) (kt : x < 0 → JR Z cv m tgt ls st E) (kf : ¬ (x < 0) → JR Z cv m nx ls st E) : JR Z cv m pc ls (.int x :: st) E := by
  obtain ⟨d, rfl⟩ := d
  intro a ha H locs Ls hP hS hl
  exact lv_if_lt h.1 h.2.1 d ht (fun c => kt c a ha H locs Ls hP hS hl) (fun c => kf (by simpa using c) a ha H locs Ls hP hS hl)
theorem j_if_lt {α : Type} {Z : Zx} {cc : ByteArray} {own : String} {nL : Nat} {ret : Option FieldType} {lev : Nat} (h : OkX Z cc own nL ret lev) {cv : α → Option Value × Mem} {m : Mem} {pc nx : Nat} {ls : List (Option Value)} {st : List Value} {E1 E2 : Option α} {x : Int32} {off : Int} {tgt : Nat} (d : DD cc pc (.ifCond .lt off) 3 nx) (ht : (pc : Int) + off = (tgt : Int)) (kt : x < 0 → JR Z cv m tgt ls st E1) (kf : ¬ (x < 0) → JR Z cv m nx ls st E2) : JR Z cv m pc ls (.int x :: st) (if x < 0 then E1 else E2) :=
  j_if_ltB h d ht (fun c => by rw [if_pos c]; exact kt c) (fun c => by rw [if_neg c]; exact kf c)
theorem j_if_geB {α : Type} {Z : Zx} {cc : ByteArray} {own : String} {nL : Nat} {ret : Option FieldType} {lev : Nat} (h : OkX Z cc own nL ret lev) {cv : α → Option Value × Mem} {m : Mem} {pc nx : Nat} {ls : List (Option Value)} {st : List Value} {E : Option α} {x : Int32} {off : Int} {tgt : Nat} (d : DD cc pc (.ifCond .ge off) 3 nx) (ht : (pc : Int) + off = (tgt : Int)) (kt : 0 ≤ x → JR Z cv m tgt ls st E) (kf : ¬ (0 ≤ x) → JR Z cv m nx ls st E) : JR Z cv m pc ls (.int x :: st) E := by
  obtain ⟨d, rfl⟩ := d
  intro a ha H locs Ls hP hS hl
  exact lv_if_ge h.1 h.2.1 d ht (fun c => kt c a ha H locs Ls hP hS hl) (fun c => kf (by simpa using c) a ha H locs Ls hP hS hl)
theorem j_if_ge {α : Type} {Z : Zx} {cc : ByteArray} {own : String} {nL : Nat} {ret : Option FieldType} {lev : Nat} (h : OkX Z cc own nL ret lev) {cv : α → Option Value × Mem} {m : Mem} {pc nx : Nat} {ls : List (Option Value)} {st : List Value} {E1 E2 : Option α} {x : Int32} {off : Int} {tgt : Nat} (d : DD cc pc (.ifCond .ge off) 3 nx) (ht : (pc : Int) + off = (tgt : Int)) (kt : 0 ≤ x → JR Z cv m tgt ls st E1) (kf : ¬ (0 ≤ x) → JR Z cv m nx ls st E2) : JR Z cv m pc ls (.int x :: st) (if 0 ≤ x then E1 else E2) :=
  j_if_geB h d ht (fun c => by rw [if_pos c]; exact kt c) (fun c => by rw [if_neg c]; exact kf c)
theorem j_if_gtB {α : Type} {Z : Zx} {cc : ByteArray} {own : String} {nL : Nat} {ret : Option FieldType} {lev : Nat} (h : OkX Z cc own nL ret lev) {cv : α → Option Value × Mem} {m : Mem} {pc nx : Nat} {ls : List (Option Value)} {st : List Value} {E : Option α} {x : Int32} {off : Int} {tgt : Nat} (d : DD cc pc (.ifCond .gt off) 3 nx) (ht : (pc : Int) + off = (tgt : Int)) (kt : 0 < x → JR Z cv m tgt ls st E) (kf : ¬ (0 < x) → JR Z cv m nx ls st E) : JR Z cv m pc ls (.int x :: st) E := by
  obtain ⟨d, rfl⟩ := d
  intro a ha H locs Ls hP hS hl
  exact lv_if_gt h.1 h.2.1 d ht (fun c => kt c a ha H locs Ls hP hS hl) (fun c => kf (by simpa using c) a ha H locs Ls hP hS hl)
theorem j_if_gt {α : Type} {Z : Zx} {cc : ByteArray} {own : String} {nL : Nat} {ret : Option FieldType} {lev : Nat} (h : OkX Z cc own nL ret lev) {cv : α → Option Value × Mem} {m : Mem} {pc nx : Nat} {ls : List (Option Value)} {st : List Value} {E1 E2 : Option α} {x : Int32} {off : Int} {tgt : Nat} (d : DD cc pc (.ifCond .gt off) 3 nx) (ht : (pc : Int) + off = (tgt : Int)) (kt : 0 < x → JR Z cv m tgt ls st E1) (kf : ¬ (0 < x) → JR Z cv m nx ls st E2) : JR Z cv m pc ls (.int x :: st) (if 0 < x then E1 else E2) :=
  j_if_gtB h d ht (fun c => by rw [if_pos c]; exact kt c) (fun c => by rw [if_neg c]; exact kf c)
theorem j_if_leB {α : Type} {Z : Zx} {cc : ByteArray} {own : String} {nL : Nat} {ret : Option FieldType} {lev : Nat} (h : OkX Z cc own nL ret lev) {cv : α → Option Value × Mem} {m : Mem} {pc nx : Nat} {ls : List (Option Value)} {st : List Value} {E : Option α} {x : Int32} {off : Int} {tgt : Nat} (d : DD cc pc (.ifCond .le off) 3 nx) (ht : (pc : Int) + off = (tgt : Int)) (kt : x ≤ 0 → JR Z cv m tgt ls st E) (kf : ¬ (x ≤ 0) → JR Z cv m nx ls st E) : JR Z cv m pc ls (.int x :: st) E := by
  obtain ⟨d, rfl⟩ := d
  intro a ha H locs Ls hP hS hl
  exact lv_if_le h.1 h.2.1 d ht (fun c => kt c a ha H locs Ls hP hS hl) (fun c => kf (by simpa using c) a ha H locs Ls hP hS hl)
theorem j_if_le {α : Type} {Z : Zx} {cc : ByteArray} {own : String} {nL : Nat} {ret : Option FieldType} {lev : Nat} (h : OkX Z cc own nL ret lev) {cv : α → Option Value × Mem} {m : Mem} {pc nx : Nat} {ls : List (Option Value)} {st : List Value} {E1 E2 : Option α} {x : Int32} {off : Int} {tgt : Nat} (d : DD cc pc (.ifCond .le off) 3 nx) (ht : (pc : Int) + off = (tgt : Int)) (kt : x ≤ 0 → JR Z cv m tgt ls st E1) (kf : ¬ (x ≤ 0) → JR Z cv m nx ls st E2) : JR Z cv m pc ls (.int x :: st) (if x ≤ 0 then E1 else E2) :=
  j_if_leB h d ht (fun c => by rw [if_pos c]; exact kt c) (fun c => by rw [if_neg c]; exact kf c)
theorem j_goto {α : Type} {Z : Zx} {cc : ByteArray} {own : String} {nL : Nat} {ret : Option FieldType} {lev : Nat} (h : OkX Z cc own nL ret lev) {cv : α → Option Value × Mem} {m : Mem} {pc nx : Nat} {ls : List (Option Value)} {st : List Value} {E : Option α} {off : Int} {tgt : Nat} (d : DD cc pc (.goto off) 3 nx) (ht : (pc : Int) + off = (tgt : Int)) (k : JR Z cv m tgt ls st E) : JR Z cv m pc ls st E := by
  obtain ⟨d, rfl⟩ := d
  intro a ha H locs Ls hP hS hl
  exact lv_goto h.1 h.2.1 d ht (k a ha H locs Ls hP hS hl)
end
section
/-! ===== rules: division, names, fields, rows, calls, ends ===== -/
/-- a new memory, named -/
def pt {β : Type} (m : Mem) (K : Mem → Option β) : Option β := K m
/-- a number, named -/
def nm {β : Type} (x : Int32) (K : Int32 → Option β) : Option β := K x
def nmL {β : Type} (x : Int64) (K : Int64 → Option β) : Option β := K x
/-- a row is read, written: nothing comes of a wrong index -/
def rd {β : Type} (f : Nat → Int32) (n : Nat) (i : Int32) (K : Int32 → Option β) : Option β := if ¬ (i < 0 ∨ n ≤ i.toNatClampNeg) then K (f i.toNatClampNeg) else none
def rdL {β : Type} (f : Nat → Int64) (n : Nat) (i : Int32) (K : Int64 → Option β) : Option β := if ¬ (i < 0 ∨ n ≤ i.toNatClampNeg) then K (f i.toNatClampNeg) else none
def wr {β : Type} (m : Mem) (q n : Nat) (i x : Int32) (K : Mem → Option β) : Option β := if ¬ (i < 0 ∨ n ≤ i.toNatClampNeg) then K (sI m q i.toNatClampNeg x) else none
def wrL {β : Type} (m : Mem) (q n : Nat) (i : Int32) (x : Int64) (K : Mem → Option β) : Option β := if ¬ (i < 0 ∨ n ≤ i.toNatClampNeg) then K (sL m q i.toNatClampNeg x) else none
/-- a divisor is looked at -/
def dv {β : Type} (y : Int32) (E : Option β) : Option β := if y = 0 then none else E
/-- a truth value is looked at -/
def tz {β : Type} (v : Int32) (E : Option β) : Option β := if narrow .boolean (.int v) = .int v then E else none
/-- answers: an int and no change; an int and a memory; a memory; a long and no change; a place and a memory -/
def cvP (m : Mem) (r : Int32) : Option Value × Mem := (some (.int r), m)
def cvI (q : Int32 × Mem) : Option Value × Mem := (some (.int q.1), q.2)
def cvV (m : Mem) : Option Value × Mem := (none, m)
def cvL (m : Mem) (r : Int64) : Option Value × Mem := (some (.long r), m)
def cvR (G : Gt) (q : Nat × Mem) : Option Value × Mem := (some (.ref (G.2.2 q.1)), q.2)
section R2
variable {α : Type} {Z : Zx} {cc : ByteArray} {own : String} {nL : Nat} {ret : Option FieldType} {lev : Nat} {cv : α → Option Value × Mem} {m : Mem} {pc nx : Nat} {ls : List (Option Value)} {st : List Value} {E : Option α}
theorem j_idivB (h : OkX Z cc own nL ret lev) {x y : Int32} (d : DD cc pc .idiv 1 nx) (hne : ¬ y = 0) (k : JR Z cv m nx ls (.int (x / y) :: st) E) : JR Z cv m pc ls (.int y :: .int x :: st) E := by
  obtain ⟨d, rfl⟩ := d
  intro a ha H locs Ls hP hS hl
  exact lv_idiv h.1 h.2.1 d hne (k a ha H locs Ls hP hS hl)
theorem j_iremB (h : OkX Z cc own nL ret lev) {x y : Int32} (d : DD cc pc .irem 1 nx) (hne : ¬ y = 0) (k : JR Z cv m nx ls (.int (x - x / y * y) :: st) E) : JR Z cv m pc ls (.int y :: .int x :: st) E := by
  obtain ⟨d, rfl⟩ := d
  intro a ha H locs Ls hP hS hl
  exact lv_irem h.1 h.2.1 d hne (k a ha H locs Ls hP hS hl)
theorem j_idiv (h : OkX Z cc own nL ret lev) {x y : Int32} (d : DD cc pc .idiv 1 nx) (k : JR Z cv m nx ls (.int (x / y) :: st) E) : JR Z cv m pc ls (.int y :: .int x :: st) (dv y E) := by
  intro a ha
  by_cases c : y = 0
  · rw [dv, if_pos c] at ha
    cases ha
  · rw [dv, if_neg c] at ha
    exact j_idivB h d c k a ha
theorem j_irem (h : OkX Z cc own nL ret lev) {x y : Int32} (d : DD cc pc .irem 1 nx) (k : JR Z cv m nx ls (.int (x - x / y * y) :: st) E) : JR Z cv m pc ls (.int y :: .int x :: st) (dv y E) := by
  intro a ha
  by_cases c : y = 0
  · rw [dv, if_pos c] at ha
    cases ha
  · rw [dv, if_neg c] at ha
    exact j_iremB h d c k a ha
theorem j_nm {x : Int32} {K : Int32 → Option α} (k : ∀ y, y = x → JR Z cv m pc ls (.int y :: st) (K y)) : JR Z cv m pc ls (.int x :: st) (nm x K) := k x rfl
theorem j_nmL {x : Int64} {K : Int64 → Option α} (k : ∀ y, y = x → JR Z cv m pc ls (.long y :: st) (K y)) : JR Z cv m pc ls (.long x :: st) (nmL x K) := k x rfl
theorem j_wk {ls' : List (Option Value)} (hw : lwk ls' ls) (k : JR Z cv m pc ls' st E) : JR Z cv m pc ls st E := fun a ha H locs Ls hP hS hl => k a ha H locs Ls hP hS (lO_wk hw hl)
theorem j_none : JR Z cv m pc ls st none := fun a ha => by cases ha
theorem j_get (h : OkX Z cc own nL ret lev) {C : String} {T : u_T} {N ci idx k a q0 : Nat} {fs : List Value} {v : Value} (hin : ∀ w ∈ u_ws C T N, w ∈ WT) (hc : jcl[ci]? = some (C, T, N)) (he : (Z.2.2.1 Z.2.1 m)[q0]? = some (a, .inr (ci, fs))) (hk : k < N) (hlink : Cond.fieldLink own idx C (T k).2.1 (T k).2.2.1 ∈ WT) (hT : (T k).1 = C) (hv : fs[k]? = some v) (d : DD cc pc (.getfield idx) 3 nx) (kk : JR Z cv m nx ls (v :: st) E) : JR Z cv m pc ls (.ref a :: st) E := by
  obtain ⟨d, rfl⟩ := d
  intro a' ha H locs Ls hP hS hl
  exact va_get h.1 h.2.1 h.2.2.2.2.2.1 hin h.2.2.2.2.1 h.2.2.2.2.2.2.1 hP q0 he hc k hk (h.2.2.2.2.2.1 _ hlink) (fun x hx => by rw [hT] at hx; exact hx) hv d (kk a' ha H locs Ls hP hS hl)
theorem j_getN (h : OkX Z cc own nL ret lev) {C host : String} {T : u_T} {N ci idx k a q0 : Nat} {fs : List Value} {v : Value} (hin : ∀ w ∈ u_ws C T N, w ∈ WT) (hc : jcl[ci]? = some (C, T, N)) (he : (Z.2.2.1 Z.2.1 m)[q0]? = some (a, .inr (ci, fs))) (hk : k < N) (hlink : Cond.fieldLinkNest own idx C (T k).2.1 (T k).2.2.1 host ∈ nestW) (hT : (T k).1 = C) (hv : fs[k]? = some v) (d : DD cc pc (.getfield idx) 3 nx) (kk : JR Z cv m nx ls (v :: st) E) : JR Z cv m pc ls (.ref a :: st) E := by
  obtain ⟨d, rfl⟩ := d
  intro a' ha H locs Ls hP hS hl
  exact va_getN h.1 h.2.1 h.2.2.2.2.2.1 hin h.2.2.2.2.1 h.2.2.2.2.2.2.1 hP q0 he hc k hk (va_Nw.use rfl (h.2.2.2.2.2.2.2.1 _ hlink)) (fun x hx => by rw [hT] at hx; exact hx) hv d (kk a' ha H locs Ls hP hS hl)
theorem j_put (h : OkX Z cc own nL ret lev) {C : String} {T : u_T} {N ci idx k a q0 : Nat} {fs : List Value} {v : Value} {ty : FieldType} {ty0 : Nat → FieldType} {m' : Mem} {K : Mem → Option α} (hin : ∀ w ∈ u_ws C T N, w ∈ WT) (hty : ∀ k, k < N → parseFieldDescriptor (T k).2.2.1 = some (ty0 k)) (hnm : ∀ a, a < N → ∀ b, b < N → a ≠ b → (T a).2.1 ≠ (T b).2.1) (hc : jcl[ci]? = some (C, T, N)) (he : (Z.2.2.1 Z.2.1 m)[q0]? = some (a, .inr (ci, fs))) (hk : k < N) (hlink : Cond.fieldLink own idx C (T k).2.1 (T k).2.2.1 ∈ WT) (hT : (T k).1 = C ∧ (T k).2.2.2 = false ∧ ty0 k = ty) (hn : narrow ty v = v) (hfit : fits ty v = true) (hl0 : k < fs.length) (hset : (Z.2.2.1 Z.2.1 m).set q0 (a, .inr (ci, fs.set k v)) = Z.2.2.1 Z.2.1 m') (d : DD cc pc (.putfield idx) 3 nx) (kk : ∀ m1, m1 = m' → JR Z cv m1 nx ls st (K m1)) : JR Z cv m pc ls (v :: .ref a :: st) (pt m' K) := by
  obtain ⟨d, rfl⟩ := d
  intro a' ha H locs Ls hP hS hl
  refine va_put h.1 h.2.1 h.2.2.2.2.2.1 hin ty0 hty hnm h.2.2.2.2.1 h.2.2.2.2.2.2.1 hP (h.2.2.2.2.2.2.2.2.2.2 m) hS q0 he hc k hk (h.2.2.2.2.2.1 _ hlink) (fun x hx => by rw [hT.1] at hx; exact hx) hT.2.1 (by rw [← hT.2.2]; exact hty k hk) hn hfit hl0 d (fun H1 locs1 hP1 hD1 hS1 => ?_)
  rw [hset] at hP1
  exact kk m' rfl a' ha H1 locs1 Ls hP1 hS1 hl
theorem j_putN (h : OkX Z cc own nL ret lev) {C host : String} {T : u_T} {N ci idx k a q0 : Nat} {fs : List Value} {v : Value} {ty : FieldType} {ty0 : Nat → FieldType} {m' : Mem} {K : Mem → Option α} (hin : ∀ w ∈ u_ws C T N, w ∈ WT) (hty : ∀ k, k < N → parseFieldDescriptor (T k).2.2.1 = some (ty0 k)) (hnm : ∀ a, a < N → ∀ b, b < N → a ≠ b → (T a).2.1 ≠ (T b).2.1) (hc : jcl[ci]? = some (C, T, N)) (he : (Z.2.2.1 Z.2.1 m)[q0]? = some (a, .inr (ci, fs))) (hk : k < N) (hlink : Cond.fieldLinkNest own idx C (T k).2.1 (T k).2.2.1 host ∈ nestW) (hT : (T k).1 = C ∧ (T k).2.2.2 = false ∧ ty0 k = ty) (hn : narrow ty v = v) (hfit : fits ty v = true) (hl0 : k < fs.length) (hset : (Z.2.2.1 Z.2.1 m).set q0 (a, .inr (ci, fs.set k v)) = Z.2.2.1 Z.2.1 m') (d : DD cc pc (.putfield idx) 3 nx) (kk : ∀ m1, m1 = m' → JR Z cv m1 nx ls st (K m1)) : JR Z cv m pc ls (v :: .ref a :: st) (pt m' K) := by
  obtain ⟨d, rfl⟩ := d
  intro a' ha H locs Ls hP hS hl
  refine va_putN h.1 h.2.1 h.2.2.2.2.2.1 hin ty0 hty hnm h.2.2.2.2.1 h.2.2.2.2.2.2.1 hP (h.2.2.2.2.2.2.2.2.2.2 m) hS q0 he hc k hk (va_Nw.use rfl (h.2.2.2.2.2.2.2.1 _ hlink)) (fun x hx => by rw [hT.1] at hx; exact hx) hT.2.1 (by rw [← hT.2.2]; exact hty k hk) hn hfit hl0 d (fun H1 locs1 hP1 hD1 hS1 => ?_)
  rw [hset] at hP1
  exact kk m' rfl a' ha H1 locs1 Ls hP1 hS1 hl
theorem j_iald (h : OkX Z cc own nL ret lev) {a q0 n : Nat} {f : Nat → Int32} {i : Int32} {K : Int32 → Option α} (he : (Z.2.2.1 Z.2.1 m)[q0]? = some (a, .inl (Z.2.1.2.1.1, n, .inl f))) (d : DD cc pc .iaload 1 nx) (kk : ∀ v, v = f i.toNatClampNeg → JR Z cv m nx ls (.int v :: st) (K v)) : JR Z cv m pc ls (.int i :: .ref a :: st) (rd f n i K) := by
  obtain ⟨d, rfl⟩ := d
  intro a' ha H locs Ls hP hS hl
  unfold rd at ha
  split at ha
  · rename_i c
    exact va_iald h.1 h.2.1 h.2.2.2.2.2.2.1 hP q0 0 he rfl c d (kk _ rfl a' ha H locs Ls hP hS hl)
  · cases ha
theorem j_bald (h : OkX Z cc own nL ret lev) {a q0 n : Nat} {f : Nat → Int32} {i : Int32} {K : Int32 → Option α} (he : (Z.2.2.1 Z.2.1 m)[q0]? = some (a, .inl (Z.2.1.2.1.2.1, n, .inl f))) (d : DD cc pc .baload 1 nx) (kk : ∀ v, v = f i.toNatClampNeg → JR Z cv m nx ls (.int v :: st) (K v)) : JR Z cv m pc ls (.int i :: .ref a :: st) (rd f n i K) := by
  obtain ⟨d, rfl⟩ := d
  intro a' ha H locs Ls hP hS hl
  unfold rd at ha
  split at ha
  · rename_i c
    exact va_bald h.1 h.2.1 h.2.2.2.2.2.2.1 hP q0 1 he rfl c d (kk _ rfl a' ha H locs Ls hP hS hl)
  · cases ha
theorem j_zald (h : OkX Z cc own nL ret lev) {a q0 n : Nat} {f : Nat → Int32} {i : Int32} {K : Int32 → Option α} (he : (Z.2.2.1 Z.2.1 m)[q0]? = some (a, .inl (Z.2.1.2.1.2.2.2, n, .inl f))) (d : DD cc pc .baload 1 nx) (kk : ∀ v, v = f i.toNatClampNeg → JR Z cv m nx ls (.int v :: st) (K v)) : JR Z cv m pc ls (.int i :: .ref a :: st) (rd f n i K) := by
  obtain ⟨d, rfl⟩ := d
  intro a' ha H locs Ls hP hS hl
  unfold rd at ha
  split at ha
  · rename_i c
    exact va_zald h.1 h.2.1 h.2.2.2.2.2.2.1 hP q0 3 he rfl c d (kk _ rfl a' ha H locs Ls hP hS hl)
  · cases ha
theorem j_lald (h : OkX Z cc own nL ret lev) {a q0 n : Nat} {f : Nat → Int64} {i : Int32} {K : Int64 → Option α} (he : (Z.2.2.1 Z.2.1 m)[q0]? = some (a, .inl (Z.2.1.2.1.2.2.1, n, .inr (.inl f)))) (d : DD cc pc .laload 1 nx) (kk : ∀ v, v = f i.toNatClampNeg → JR Z cv m nx ls (.long v :: st) (K v)) : JR Z cv m pc ls (.int i :: .ref a :: st) (rdL f n i K) := by
  obtain ⟨d, rfl⟩ := d
  intro a' ha H locs Ls hP hS hl
  unfold rdL at ha
  split at ha
  · rename_i c
    exact va_lald h.1 h.2.1 h.2.2.2.2.2.2.1 hP q0 2 he rfl c d (kk _ rfl a' ha H locs Ls hP hS hl)
  · cases ha
theorem j_iast (h : OkX Z cc own nL ret lev) {a q0 q n : Nat} {i x : Int32} {K : Mem → Option α} (he : (Z.2.2.1 Z.2.1 m)[q0]? = some (a, .inl (Z.2.1.2.1.1, n, .inl (m.1 q)))) (hset : ∀ g, (Z.2.2.1 Z.2.1 m).set q0 (a, .inl (Z.2.1.2.1.1, n, .inl g)) = Z.2.2.1 Z.2.1 (sW m q g)) (d : DD cc pc .iastore 1 nx) (kk : ∀ m1, m1 = sI m q i.toNatClampNeg x → JR Z cv m1 nx ls st (K m1)) : JR Z cv m pc ls (.int x :: .int i :: .ref a :: st) (wr m q n i x K) := by
  obtain ⟨d, rfl⟩ := d
  intro a' ha H locs Ls hP hS hl
  unfold wr at ha
  split at ha
  · rename_i c
    refine va_iast h.1 h.2.1 h.2.2.2.2.2.2.1 hP (h.2.2.2.2.2.2.2.2.2.2 m) hS q0 0 he rfl c d (fun H1 locs1 hP1 hD1 hS1 => ?_)
    rw [hset] at hP1
    exact kk _ rfl a' ha H1 locs1 Ls hP1 hS1 hl
  · cases ha
theorem j_bast (h : OkX Z cc own nL ret lev) {a q0 q n : Nat} {i x : Int32} {K : Mem → Option α} (he : (Z.2.2.1 Z.2.1 m)[q0]? = some (a, .inl (Z.2.1.2.1.2.1, n, .inl (m.1 q)))) (hset : ∀ g, (Z.2.2.1 Z.2.1 m).set q0 (a, .inl (Z.2.1.2.1.2.1, n, .inl g)) = Z.2.2.1 Z.2.1 (sW m q g)) (d : DD cc pc .bastore 1 nx) (kk : ∀ m1, m1 = sI m q i.toNatClampNeg (vp_nar .byte x) → JR Z cv m1 nx ls st (K m1)) : JR Z cv m pc ls (.int x :: .int i :: .ref a :: st) (wr m q n i (vp_nar .byte x) K) := by
  obtain ⟨d, rfl⟩ := d
  intro a' ha H locs Ls hP hS hl
  unfold wr at ha
  split at ha
  · rename_i c
    refine va_bast h.1 h.2.1 h.2.2.2.2.2.2.1 hP (h.2.2.2.2.2.2.2.2.2.2 m) hS q0 1 he rfl c d (fun H1 locs1 hP1 hD1 hS1 => ?_)
    rw [hset] at hP1
    exact kk _ rfl a' ha H1 locs1 Ls hP1 hS1 hl
  · cases ha
theorem j_zast (h : OkX Z cc own nL ret lev) {a q0 q n : Nat} {i x : Int32} {K : Mem → Option α} (he : (Z.2.2.1 Z.2.1 m)[q0]? = some (a, .inl (Z.2.1.2.1.2.2.2, n, .inl (m.1 q)))) (hset : ∀ g, (Z.2.2.1 Z.2.1 m).set q0 (a, .inl (Z.2.1.2.1.2.2.2, n, .inl g)) = Z.2.2.1 Z.2.1 (sW m q g)) (d : DD cc pc .bastore 1 nx) (kk : ∀ m1, m1 = sI m q i.toNatClampNeg (vp_nar .boolean x) → JR Z cv m1 nx ls st (K m1)) : JR Z cv m pc ls (.int x :: .int i :: .ref a :: st) (wr m q n i (vp_nar .boolean x) K) := by
  obtain ⟨d, rfl⟩ := d
  intro a' ha H locs Ls hP hS hl
  unfold wr at ha
  split at ha
  · rename_i c
    refine va_zast h.1 h.2.1 h.2.2.2.2.2.2.1 hP (h.2.2.2.2.2.2.2.2.2.2 m) hS q0 3 he rfl c d (fun H1 locs1 hP1 hD1 hS1 => ?_)
    rw [hset] at hP1
    exact kk _ rfl a' ha H1 locs1 Ls hP1 hS1 hl
  · cases ha
theorem j_last (h : OkX Z cc own nL ret lev) {a q0 q n : Nat} {i : Int32} {x : Int64} {K : Mem → Option α} (he : (Z.2.2.1 Z.2.1 m)[q0]? = some (a, .inl (Z.2.1.2.1.2.2.1, n, .inr (.inl (m.2.1 q))))) (hset : (Z.2.2.1 Z.2.1 m).set q0 (a, .inl (Z.2.1.2.1.2.2.1, n, .inr (.inl (vp_updL (m.2.1 q) i.toNatClampNeg x)))) = Z.2.2.1 Z.2.1 (sL m q i.toNatClampNeg x)) (d : DD cc pc .lastore 1 nx) (kk : ∀ m1, m1 = sL m q i.toNatClampNeg x → JR Z cv m1 nx ls st (K m1)) : JR Z cv m pc ls (.long x :: .int i :: .ref a :: st) (wrL m q n i x K) := by
  obtain ⟨d, rfl⟩ := d
  intro a' ha H locs Ls hP hS hl
  unfold wrL at ha
  split at ha
  · rename_i c
    refine va_last h.1 h.2.1 h.2.2.2.2.2.2.1 hP (h.2.2.2.2.2.2.2.2.2.2 m) hS q0 2 he rfl c d (fun H1 locs1 hP1 hD1 hS1 => ?_)
    rw [hset] at hP1
    exact kk _ rfl a' ha H1 locs1 Ls hP1 hS1 hl
  · cases ha
theorem j_alen (h : OkX Z cc own nL ret lev) {a q0 : Nat} {x : vp_A} {v : Int32} (he : (Z.2.2.1 Z.2.1 m)[q0]? = some (a, .inl (Z.2.1.2.1.1, x))) (hv : Int32.ofNat x.1 = v) (d : DD cc pc .arraylength 1 nx) (kk : JR Z cv m nx ls (.int v :: st) E) : JR Z cv m pc ls (.ref a :: st) E := by
  obtain ⟨d, rfl⟩ := d
  intro a' ha H locs Ls hP hS hl
  exact va_alen h.1 h.2.1 h.2.2.2.2.2.2.1 hP q0 0 he rfl hv d (kk a' ha H locs Ls hP hS hl)
/-- ends -/
theorem j_iret (h : OkX Z cc own nL (some .int) lev) {a : α} {v : Int32} (hcv : cv a = (some (.int v), m)) (d : DD cc pc .ireturn 1 nx) : JR Z cv m pc ls [.int v] (some a) := by
  obtain ⟨d, rfl⟩ := d
  intro a' ha H locs Ls hP hS hl
  cases ha
  exact W.iret h.1 h.2.1 h.2.2.1 (fun t ht hW => ⟨by rw [hcv], by rw [hcv, ht]; exact hP, hS.F ht⟩) hS.2.2 d (hlocks := h.2.2.2.2.2.2.2.2.1)
theorem j_zretB (h : OkX Z cc own nL (some .boolean) lev) {a : α} {v : Int32} (hcv : cv a = (some (.int v), m)) (hn : narrow .boolean (.int v) = .int v) (d : DD cc pc .ireturn 1 nx) : JR Z cv m pc ls [.int v] (some a) := by
  obtain ⟨d, rfl⟩ := d
  intro a' ha H locs Ls hP hS hl
  cases ha
  exact W.zret h.1 h.2.1 h.2.2.1 hn (fun t ht hW => ⟨by rw [hcv], by rw [hcv, ht]; exact hP, hS.F ht⟩) hS.2.2 d (hlocks := h.2.2.2.2.2.2.2.2.1)
theorem j_zret (h : OkX Z cc own nL (some .boolean) lev) {a : α} {v : Int32} (hcv : cv a = (some (.int v), m)) (d : DD cc pc .ireturn 1 nx) : JR Z cv m pc ls [.int v] (tz v (some a)) := by
  intro a' ha
  by_cases c : narrow .boolean (.int v) = .int v
  · rw [tz, if_pos c] at ha
    exact j_zretB h hcv c d a' ha
  · rw [tz, if_neg c] at ha
    cases ha
theorem j_lret (h : OkX Z cc own nL (some .long) lev) {a : α} {v : Int64} (hcv : cv a = (some (.long v), m)) (d : DD cc pc .lreturn 1 nx) : JR Z cv m pc ls [.long v] (some a) := by
  obtain ⟨d, rfl⟩ := d
  intro a' ha H locs Ls hP hS hl
  cases ha
  exact W.lret h.1 h.2.1 h.2.2.1 (fun t ht hW => ⟨by rw [hcv], by rw [hcv, ht]; exact hP, hS.F ht⟩) hS.2.2 d (hlocks := h.2.2.2.2.2.2.2.2.1)
theorem j_vret (h : OkX Z cc own nL none lev) {a : α} (hcv : cv a = (none, m)) (d : DD cc pc .return_ 1 nx) : JR Z cv m pc ls [] (some a) := by
  obtain ⟨d, rfl⟩ := d
  intro a' ha H locs Ls hP hS hl
  cases ha
  exact W.vret h.1 h.2.1 h.2.2.1 (fun t ht hW => ⟨by rw [hcv], by rw [hcv, ht]; exact hP, hS.F ht⟩) hS.2.2 d (hlocks := h.2.2.2.2.2.2.2.2.1)
theorem j_aret {C : String} (h : OkX Z cc own nL (some (.object C)) lev) {a : α} {q : Nat} (hcv : cv a = (some (.ref q), m)) (d : DD cc pc .areturn 1 nx) : JR Z cv m pc ls [.ref q] (some a) := by
  obtain ⟨d, rfl⟩ := d
  intro a' ha H locs Ls hP hS hl
  cases ha
  exact W.aret h.1 h.2.1 h.2.2.1 (Or.inl ⟨_, rfl⟩) (Or.inr ⟨_, rfl⟩) (fun t ht hW => ⟨by rw [hcv], by rw [hcv, ht]; exact hP, hS.F ht⟩) hS.2.2 d (hlocks := h.2.2.2.2.2.2.2.2.1)
/-- switches -/
theorem j_tabIn (h : OkX Z cc own nL ret lev) {dflt lo hi off : Int} {offs : Array Int} {len tgt : Nat} {x v : Int32} (hx : x = v) (d : DD cc pc (.tableswitch dflt lo hi offs) len nx) (h1 : ¬ v.toInt < lo) (h2 : ¬ hi < v.toInt) (ho : offs[(v.toInt - lo).toNat]? = some off) (ht : (pc : Int) + off = (tgt : Int)) (k : JR Z cv m tgt ls st E) : JR Z cv m pc ls (.int x :: st) E := by
  subst hx
  obtain ⟨d, -⟩ := d
  intro a ha H locs Ls hP hS hl
  exact lv_tableIn h.1 h.2.1 d h1 h2 ho ht (k a ha H locs Ls hP hS hl)
theorem j_tabOut (h : OkX Z cc own nL ret lev) {dflt lo hi : Int} {offs : Array Int} {len tgt : Nat} {x : Int32} (vs : List Int32) (d : DD cc pc (.tableswitch dflt lo hi offs) len nx) (hx : ∀ v ∈ vs, ¬ x = v) (hvs : hi = lo + vs.length - 1) (hv : ∀ k, k < vs.length → ∃ v, vs[k]? = some v ∧ v.toInt = lo + k) (ht : (pc : Int) + dflt = (tgt : Int)) (k : JR Z cv m tgt ls st E) : JR Z cv m pc ls (.int x :: st) E := by
  obtain ⟨d, -⟩ := d
  intro a ha H locs Ls hP hS hl
  refine lv_tableOut h.1 h.2.1 d ?_ ht (k a ha H locs Ls hP hS hl)
  by_cases c1 : x.toInt < lo
  · exact Or.inl c1
  · by_cases c2 : hi < x.toInt
    · exact Or.inr c2
    · exfalso
      obtain ⟨v, e1, e2⟩ := hv (x.toInt - lo).toNat (by omega)
      exact hx v (List.mem_of_getElem? e1) (Int32.toInt_inj.mp (by rw [e2]; omega))
theorem j_lookup (h : OkX Z cc own nL ret lev) {dflt off : Int} {ps : Array (Int × Int)} {len tgt : Nat} {x : Int32} (d : DD cc pc (.lookupswitch dflt ps) len nx) (hp : (ps.toList.zip (ps.toList.drop 1)).all (fun (a, next) => a.1 < next.1) = true) (ho : Op.lookupswitch.offset ps.toList dflt x.toInt = off) (ht : (pc : Int) + off = (tgt : Int)) (k : JR Z cv m tgt ls st E) : JR Z cv m pc ls (.int x :: st) E := by
  obtain ⟨d, -⟩ := d
  intro a ha H locs Ls hP hS hl
  exact lv_lookup h.1 h.2.1 d hp ho ht (k a ha H locs Ls hP hS hl)
end R2
/-! calls -/
theorem good_wt {ws : List Cond} (h : ∀ w ∈ ws, w ∈ WT) : GoodIn WT ws := fun w hw => ⟨h w hw, good_of_word (List.mem_filter.mp (h w hw)).2⟩
/-- what a call's words are: of the method, and of the call's own place -/
def mOK (y : MethodName) (bytes : ByteArray) (maxL : Nat) (ret : Option FieldType) (n : Nat) : Prop :=
  (Cond.initialized y.cls ∈ WT) ∧ (Cond.code y bytes maxL ret ∈ WT) ∧ y.cls ≠ "java/lang/invoke/MethodHandle" ∧ y.cls ≠ "java/lang/invoke/VarHandle" ∧ (parseMethodDescriptor y.desc).map (fun d => d.parameters.length) = some n
theorem Hd.blind {G : Gt} {wf : Wf} {m : Mem} {as : List Value} : FrameBlind (va_Pc as (Hd G wf m)) := fun a U g mk q => ⟨q.1, q.2.1, va_K.moved (u := U) (U := U.calling g mk a) (Vm.Alike.refl U.vm) q.2.2.1, NW.calling g mk a q.2.2.2⟩
theorem callOK {Z : Zx} {cc : ByteArray} {own : String} {nL : Nat} {ret : Option FieldType} {lev : Nat} (h : OkX Z cc own nL ret lev) {y : MethodName} {bytes : ByteArray} {maxL n idx lev2 : Nat} {ret2 : Option FieldType} (hM : mOK y bytes maxL ret2 n) (hl : Cond.methodLink own idx y ∈ WT) (hlev : lev2 < lev) (hmax : maxL ≤ 45) : CallB Z.1.2.2.2.1 Z.1.2.2.2.2.1 Z.1.2.2.2.2.2.2.1 own idx y bytes maxL ret2 (.code y bytes maxL ret2 :: WT) (rmv lev2) 0 0 n := by
  obtain ⟨h1, h2, h3, h4, h5⟩ := hM
  refine callB_of (Ts := WT) n h.2.2.2.2.2.1 (good_wt ?_) rfl rfl rfl (h.2.2.2.2.2.1 _ h1) (h.2.2.2.2.2.1 _ hl) ⟨h3, h4, h5⟩ ?_
  · intro w hw
    rcases List.mem_cons.mp hw with rfl | hw
    · exact h2
    · exact hw
  · rw [h.2.2.2.2.2.2.2.2.2.1]
    simp only [rmv]
    omega
theorem j_back {α β : Type} {Z : Zx} {cc : ByteArray} {own : String} {nL : Nat} {ret : Option FieldType} {lev : Nat} (h : OkX Z cc own nL ret lev) {cv : α → Option Value × Mem} {m : Mem} {pc : Nat} {ls : List (Option Value)} {st st0 : List Value} {cv2 : β → Option Value × Mem} {F : Option β} {K : β → Option α} {as : Array Value}
    (run : ∀ b, F = some b → ∀ (H : Heap) (locs : List Loc) (Ls : Array Slot), va_P Z.2.1.1 jcl (Z.2.2.1 Z.2.1 m) H → lO Ls ls → va_Run Z.1.1 Z.1.2.1 Z.1.2.2.1 Z.1.2.2.2.1 Z.1.2.2.2.2.1 Z.1.2.2.2.2.2.1 Z.1.2.2.2.2.2.2.1 Z.1.2.2.2.2.2.2.2.1 Z.1.2.2.2.2.2.2.2.2.1 Z.1.2.2.2.2.2.2.2.2.2 H locs 0 0 0 0 (F0 Z.1.2.2.2.2.2.1 pc Ls st0) st (Qo Z.2.1 Z.2.2.1 Z.2.2.2 (cv2 b) as) (inA Z.2.1 Z.2.2.2))
    (kk : ∀ b, F = some b → JR Z cv (cv2 b).2 (pc + 3) ls ((cv2 b).1.toList ++ st) (K b)) : JR Z cv m pc ls st0 (F.bind K) := by
  intro a ha H locs Ls hP hS hl
  cases hF : F with
  | none => rw [hF] at ha; cases ha
  | some b =>
    rw [hF] at ha
    have ha : K b = some a := ha
    intro T hT X
    obtain ⟨v, st₀, t, T', L, h0, X', hL, e1, e2, ⟨hv, hp, hz, hk⟩, sg⟩ := run b hF H locs Ls hP hl T hT X
    cases hv
    rw [h0] at hz hk
    obtain ⟨t2, a1, b1⟩ := kk b hF a ha T'.heap (locs ++ L) Ls (by rw [e1]; exact hp) ⟨Nat.le_trans hS.1 (by rw [e1]; exact hz), fun q h1 h2 => by rw [e1, hk q (Nat.lt_of_lt_of_le h1 hS.1) h2]; exact hS.2.1 q h1 h2, fun q hq => by
      rcases List.mem_append.mp hq with h | h
      · exact hS.2.2 q h
      · exact hL q h⟩ hl T' rfl X'
    exact ⟨t2, sg t2 a1, b1⟩
theorem j_callV {α β : Type} {Z : Zx} {cc : ByteArray} {own : String} {nL : Nat} {ret : Option FieldType} {lev : Nat} (h : OkX Z cc own nL ret lev) {cv : α → Option Value × Mem} {m : Mem} {pc nx : Nat} {ls : List (Option Value)} {st st0 : List Value} {cv2 : β → Option Value × Mem} {F : Option β} {K : β → Option α} {y : MethodName} {bytes : ByteArray} {maxL n idx lev2 b q0 ci N : Nat} {T : u_T} {fs : List Value} {ret2 : Option FieldType} (As : List Value)
    (hct : ∀ a, F = some a → Ct Z.1.2.1 Z.2.1 Z.2.2.1 Z.2.2.2 y bytes maxL ret2 lev2 (.ref b :: As) m (cv2 a)) (hM : mOK y bytes maxL ret2 n) (hi : Cond.instanceMethod y ∈ WT ∧ Cond.selects y.cls y y ∈ WT) (hlk : Cond.methodLink own idx y ∈ WT) (hc : jcl[ci]? = some (y.cls, T, N)) (he : (Z.2.2.1 Z.2.1 m)[q0]? = some (b, .inr (ci, fs))) (hst : st0 = As.reverse ++ .ref b :: st) (hAs : As.length = n) (hlev : lev2 < lev) (hmax : maxL ≤ 45) (hroom : (st.map fun v => v.category).sum ≤ 8) (hnl : ls.length = nL) (d : DD cc pc (.invokevirtual idx) 3 nx)
    (kk : ∀ a, F = some a → JR Z cv (cv2 a).2 nx ls ((cv2 a).1.toList ++ st) (K a)) : JR Z cv m pc ls st0 (F.bind K) := by
  obtain ⟨d, rfl⟩ := d
  refine j_back (as := (Value.ref b :: As).toArray) h (fun a ha H locs Ls hP hl => ?_) kk
  exact va_runV (C := y.cls) (Ts := WT) ⟨h.1, h.2.1, h.2.2.2.1, h.2.2.2.2.1, h.2.2.2.2.2.1⟩ (hct a ha) ⟨callOK h hM hlk hlev hmax, h.2.2.2.2.2.1 _ hi.1, h.2.2.2.2.2.1 _ hi.2⟩ ⟨Hd.blind, va_recv h.2.2.2.2.2.2.1 hP hc he, fun U hU hW => ⟨rfl, by rw [hU]; exact hP, va_K.moved hW.alike h.2.2.2.2.2.2.1, NW.warm hW h.2.2.2.2.2.2.2.1⟩⟩ rfl hAs (hl.1.trans hnl) hst (lv_room hroom) d ⟨Nat.zero_le _, Nat.zero_le _⟩
theorem j_callS {α β : Type} {Z : Zx} {cc : ByteArray} {own : String} {nL : Nat} {ret : Option FieldType} {lev : Nat} (h : OkX Z cc own nL ret lev) {cv : α → Option Value × Mem} {m : Mem} {pc nx : Nat} {ls : List (Option Value)} {st st0 : List Value} {cv2 : β → Option Value × Mem} {F : Option β} {K : β → Option α} {y : MethodName} {bytes : ByteArray} {maxL n idx lev2 : Nat} {ret2 : Option FieldType} (As : List Value)
    (hct : ∀ a, F = some a → Ct Z.1.2.1 Z.2.1 Z.2.2.1 Z.2.2.2 y bytes maxL ret2 lev2 As m (cv2 a)) (hM : mOK y bytes maxL ret2 n) (hi : Cond.static y ∈ WT) (hlk : Cond.methodLink own idx y ∈ WT) (hst : st0 = As.reverse ++ st) (hAs : As.length = n) (hlev : lev2 < lev) (hmax : maxL ≤ 45) (hroom : (st.map fun v => v.category).sum ≤ 8) (hnl : ls.length = nL) (d : DD cc pc (.invokestatic idx) 3 nx)
    (kk : ∀ a, F = some a → JR Z cv (cv2 a).2 nx ls ((cv2 a).1.toList ++ st) (K a)) : JR Z cv m pc ls st0 (F.bind K) := by
  obtain ⟨d, rfl⟩ := d
  refine j_back (as := As.toArray) h (fun a ha H locs Ls hP hl => ?_) kk
  exact va_runS (Ts := WT) ⟨h.1, h.2.1, h.2.2.2.1, h.2.2.2.2.1, h.2.2.2.2.2.1⟩ (hct a ha) ⟨callOK h hM hlk hlev hmax, h.2.2.2.2.2.1 _ hi⟩ ⟨Hd.blind, fun U hU hW => ⟨rfl, by rw [hU]; exact hP, va_K.moved hW.alike h.2.2.2.2.2.2.1, NW.warm hW h.2.2.2.2.2.2.2.1⟩⟩ rfl hAs (hl.1.trans hnl) hst (lv_room hroom) d ⟨Nat.zero_le _, Nat.zero_le _⟩
/-- a walk of the body is a contract -/
theorem ct_of {α : Type} {G : Gt} {wf : Wf} {n : Nat} {y : MethodName} {bytes : ByteArray} {maxL : Nat} {ret : Option FieldType} {lev : Nat} {as : List Value} {m : Mem} {cv : α → Option Value × Mem} {E : Option α} {own : String} (hy : plainName y.cls = true) (hown : y.cls = own) {ls0 : List (Option Value)} (hls : aL 0 ls0 = lv_args 0 as) (hlen : ls0.length = maxL) (hsl : (lg_sl as).length ≤ maxL) (hD : ∀ m, va_D (inA G n) (wf G m)) (walk : ∀ X : Cx, OkX (X, G, wf, n) bytes own maxL ret lev → JR (X, G, wf, n) cv m 0 ls0 [] E) (l : Launch) : ∀ a, E = some a → Ct l G wf n y bytes maxL ret lev as m (cv a) := by
  intro a ha
  subst hown
  refine Met.ofW (cc := bytes) (maxL := maxL) (ret := ret) hy rfl ?_
  intro p e s mm args below meth c s₁ B hml hv
  obtain ⟨rfl, hP, hK, hN⟩ := hv
  have hts := atoms_spec (ws := Cond.code y bytes maxL ret :: WT) B.pre
  have hl := lv_entry as (n := maxL) hsl
  rw [lg_entry_eq]
  refine walk (p, l, e, _, s, mm, _, below, meth, c) ⟨B.exec, B.bytes, B.returns, hml, findClass_of_methodNamed B.named, fun w hw => hts w (List.mem_cons_of_mem _ hw), hK, hN, B.notSynchronized, rfl, hD⟩ a ha s.heap [] _ hP va_S.rf ?_
  show lv_has _ ls0.length (aL 0 ls0)
  rw [hls, hlen]
  exact hl
end
section
/-! ===== calls by the kind of their answer ===== -/
def cP {β : Type} (F : Option Int32) (K : Int32 → Option β) : Option β := F.bind K
def cL {β : Type} (F : Option Int64) (K : Int64 → Option β) : Option β := F.bind K
def cV {β : Type} (F : Option Mem) (K : Mem → Option β) : Option β := F.bind K
def cI {β : Type} (F : Option (Int32 × Mem)) (K : Int32 → Mem → Option β) : Option β := F.bind (fun q => K q.1 q.2)
def cR {β : Type} (F : Option (Nat × Mem)) (K : Nat → Mem → Option β) : Option β := F.bind (fun q => K q.1 q.2)
section C2
variable {α : Type} {Z : Zx} {cc : ByteArray} {own : String} {nL : Nat} {ret : Option FieldType} {lev : Nat} {cv : α → Option Value × Mem} {m : Mem} {pc nx : Nat} {ls : List (Option Value)} {st st0 : List Value} {y : MethodName} {bytes : ByteArray} {maxL n idx lev2 b q0 ci N : Nat} {T : u_T} {fs : List Value} {ret2 : Option FieldType}
theorem j_callVP (h : OkX Z cc own nL ret lev) {F : Option Int32} {K : Int32 → Option α} (As : List Value) (hct : ∀ a, F = some a → Ct Z.1.2.1 Z.2.1 Z.2.2.1 Z.2.2.2 y bytes maxL ret2 lev2 (.ref b :: As) m (cvP m a)) (hM : mOK y bytes maxL ret2 n) (hi : Cond.instanceMethod y ∈ WT ∧ Cond.selects y.cls y y ∈ WT) (hlk : Cond.methodLink own idx y ∈ WT) (hc : jcl[ci]? = some (y.cls, T, N)) (he : (Z.2.2.1 Z.2.1 m)[q0]? = some (b, .inr (ci, fs))) (hst : st0 = As.reverse ++ .ref b :: st) (hAs : As.length = n) (hlev : lev2 < lev) (hmax : maxL ≤ 45) (hroom : (st.map fun v => v.category).sum ≤ 8) (hnl : ls.length = nL) (d : DD cc pc (.invokevirtual idx) 3 nx) (kk : ∀ r, F = some r → JR Z cv m nx ls (.int r :: st) (K r)) : JR Z cv m pc ls st0 (cP F K) := j_callV h As hct hM hi hlk hc he hst hAs hlev hmax hroom hnl d kk
theorem j_callVI (h : OkX Z cc own nL ret lev) {F : Option (Int32 × Mem)} {K : Int32 → Mem → Option α} (As : List Value) (hct : ∀ a, F = some a → Ct Z.1.2.1 Z.2.1 Z.2.2.1 Z.2.2.2 y bytes maxL ret2 lev2 (.ref b :: As) m (cvI a)) (hM : mOK y bytes maxL ret2 n) (hi : Cond.instanceMethod y ∈ WT ∧ Cond.selects y.cls y y ∈ WT) (hlk : Cond.methodLink own idx y ∈ WT) (hc : jcl[ci]? = some (y.cls, T, N)) (he : (Z.2.2.1 Z.2.1 m)[q0]? = some (b, .inr (ci, fs))) (hst : st0 = As.reverse ++ .ref b :: st) (hAs : As.length = n) (hlev : lev2 < lev) (hmax : maxL ≤ 45) (hroom : (st.map fun v => v.category).sum ≤ 8) (hnl : ls.length = nL) (d : DD cc pc (.invokevirtual idx) 3 nx) (kk : ∀ r m1, F = some (r, m1) → JR Z cv m1 nx ls (.int r :: st) (K r m1)) : JR Z cv m pc ls st0 (cI F K) := j_callV h As hct hM hi hlk hc he hst hAs hlev hmax hroom hnl d (fun a ha => kk a.1 a.2 ha)
theorem j_callVR (h : OkX Z cc own nL ret lev) {F : Option (Nat × Mem)} {K : Nat → Mem → Option α} (As : List Value) (hct : ∀ a, F = some a → Ct Z.1.2.1 Z.2.1 Z.2.2.1 Z.2.2.2 y bytes maxL ret2 lev2 (.ref b :: As) m (cvR Z.2.1 a)) (hM : mOK y bytes maxL ret2 n) (hi : Cond.instanceMethod y ∈ WT ∧ Cond.selects y.cls y y ∈ WT) (hlk : Cond.methodLink own idx y ∈ WT) (hc : jcl[ci]? = some (y.cls, T, N)) (he : (Z.2.2.1 Z.2.1 m)[q0]? = some (b, .inr (ci, fs))) (hst : st0 = As.reverse ++ .ref b :: st) (hAs : As.length = n) (hlev : lev2 < lev) (hmax : maxL ≤ 45) (hroom : (st.map fun v => v.category).sum ≤ 8) (hnl : ls.length = nL) (d : DD cc pc (.invokevirtual idx) 3 nx) (kk : ∀ r m1, F = some (r, m1) → JR Z cv m1 nx ls (.ref (Z.2.1.2.2 r) :: st) (K r m1)) : JR Z cv m pc ls st0 (cR F K) := j_callV h As hct hM hi hlk hc he hst hAs hlev hmax hroom hnl d (fun a ha => kk a.1 a.2 ha)
theorem j_callVV (h : OkX Z cc own nL ret lev) {F : Option Mem} {K : Mem → Option α} (As : List Value) (hct : ∀ a, F = some a → Ct Z.1.2.1 Z.2.1 Z.2.2.1 Z.2.2.2 y bytes maxL ret2 lev2 (.ref b :: As) m (cvV a)) (hM : mOK y bytes maxL ret2 n) (hi : Cond.instanceMethod y ∈ WT ∧ Cond.selects y.cls y y ∈ WT) (hlk : Cond.methodLink own idx y ∈ WT) (hc : jcl[ci]? = some (y.cls, T, N)) (he : (Z.2.2.1 Z.2.1 m)[q0]? = some (b, .inr (ci, fs))) (hst : st0 = As.reverse ++ .ref b :: st) (hAs : As.length = n) (hlev : lev2 < lev) (hmax : maxL ≤ 45) (hroom : (st.map fun v => v.category).sum ≤ 8) (hnl : ls.length = nL) (d : DD cc pc (.invokevirtual idx) 3 nx) (kk : ∀ m1, F = some m1 → JR Z cv m1 nx ls st (K m1)) : JR Z cv m pc ls st0 (cV F K) := j_callV h As hct hM hi hlk hc he hst hAs hlev hmax hroom hnl d kk
theorem j_callSP (h : OkX Z cc own nL ret lev) {F : Option Int32} {K : Int32 → Option α} (As : List Value) (hct : ∀ a, F = some a → Ct Z.1.2.1 Z.2.1 Z.2.2.1 Z.2.2.2 y bytes maxL ret2 lev2 As m (cvP m a)) (hM : mOK y bytes maxL ret2 n) (hi : Cond.static y ∈ WT) (hlk : Cond.methodLink own idx y ∈ WT) (hst : st0 = As.reverse ++ st) (hAs : As.length = n) (hlev : lev2 < lev) (hmax : maxL ≤ 45) (hroom : (st.map fun v => v.category).sum ≤ 8) (hnl : ls.length = nL) (d : DD cc pc (.invokestatic idx) 3 nx) (kk : ∀ r, F = some r → JR Z cv m nx ls (.int r :: st) (K r)) : JR Z cv m pc ls st0 (cP F K) := j_callS h As hct hM hi hlk hst hAs hlev hmax hroom hnl d kk
theorem j_callSL (h : OkX Z cc own nL ret lev) {F : Option Int64} {K : Int64 → Option α} (As : List Value) (hct : ∀ a, F = some a → Ct Z.1.2.1 Z.2.1 Z.2.2.1 Z.2.2.2 y bytes maxL ret2 lev2 As m (cvL m a)) (hM : mOK y bytes maxL ret2 n) (hi : Cond.static y ∈ WT) (hlk : Cond.methodLink own idx y ∈ WT) (hst : st0 = As.reverse ++ st) (hAs : As.length = n) (hlev : lev2 < lev) (hmax : maxL ≤ 45) (hroom : (st.map fun v => v.category).sum ≤ 8) (hnl : ls.length = nL) (d : DD cc pc (.invokestatic idx) 3 nx) (kk : ∀ r, F = some r → JR Z cv m nx ls (.long r :: st) (K r)) : JR Z cv m pc ls st0 (cL F K) := j_callS h As hct hM hi hlk hst hAs hlev hmax hroom hnl d kk
theorem j_callSI (h : OkX Z cc own nL ret lev) {F : Option (Int32 × Mem)} {K : Int32 → Mem → Option α} (As : List Value) (hct : ∀ a, F = some a → Ct Z.1.2.1 Z.2.1 Z.2.2.1 Z.2.2.2 y bytes maxL ret2 lev2 As m (cvI a)) (hM : mOK y bytes maxL ret2 n) (hi : Cond.static y ∈ WT) (hlk : Cond.methodLink own idx y ∈ WT) (hst : st0 = As.reverse ++ st) (hAs : As.length = n) (hlev : lev2 < lev) (hmax : maxL ≤ 45) (hroom : (st.map fun v => v.category).sum ≤ 8) (hnl : ls.length = nL) (d : DD cc pc (.invokestatic idx) 3 nx) (kk : ∀ r m1, F = some (r, m1) → JR Z cv m1 nx ls (.int r :: st) (K r m1)) : JR Z cv m pc ls st0 (cI F K) := j_callS h As hct hM hi hlk hst hAs hlev hmax hroom hnl d (fun a ha => kk a.1 a.2 ha)
theorem j_callSV (h : OkX Z cc own nL ret lev) {F : Option Mem} {K : Mem → Option α} (As : List Value) (hct : ∀ a, F = some a → Ct Z.1.2.1 Z.2.1 Z.2.2.1 Z.2.2.2 y bytes maxL ret2 lev2 As m (cvV a)) (hM : mOK y bytes maxL ret2 n) (hi : Cond.static y ∈ WT) (hlk : Cond.methodLink own idx y ∈ WT) (hst : st0 = As.reverse ++ st) (hAs : As.length = n) (hlev : lev2 < lev) (hmax : maxL ≤ 45) (hroom : (st.map fun v => v.category).sum ≤ 8) (hnl : ls.length = nL) (d : DD cc pc (.invokestatic idx) 3 nx) (kk : ∀ m1, F = some m1 → JR Z cv m1 nx ls st (K m1)) : JR Z cv m pc ls st0 (cV F K) := j_callS h As hct hM hi hlk hst hAs hlev hmax hroom hnl d kk
end C2
theorem j_key {α : Type} {Z : Zx} {cv : α → Option Value × Mem} {m : Mem} {pc pc' : Nat} {ls : List (Option Value)} {st st' : List Value} {E : Option α} (k : JR Z cv m pc' ls st' E) (f : JR Z cv m pc' ls st' E → JR Z cv m pc ls st E) : JR Z cv m pc ls st E := f k
theorem j_ldcw {α : Type} {Z : Zx} {cc : ByteArray} {own : String} {nL : Nat} {ret : Option FieldType} {lev : Nat} (h : OkX Z cc own nL ret lev) {cv : α → Option Value × Mem} {m : Mem} {pc nx : Nat} {ls : List (Option Value)} {st : List Value} {E : Option α} {idx : Nat} {v : Int32} (d : DD cc pc (.ldc_w idx) 3 nx) (hw : Cond.constant own idx v ∈ WT) (k : JR Z cv m nx ls (.int v :: st) E) : JR Z cv m pc ls st E := by
  obtain ⟨d, rfl⟩ := d
  intro a ha H locs Ls hP hS hl
  exact lv_ldcw h.1 h.2.1 h.2.2.2.2.1 (h.2.2.2.2.2.1 _ hw) d (k a ha H locs Ls hP hS hl)
end
section
/-! ===== the reference's world: its object at place 0, its rows behind, in the order of their making ===== -/
-- slot 0: tape [I at place 1, 1600 long
-- slot 1: taped I
-- slot 2: fault I
-- slot 3: faultPlace I
-- slot 4: at I
-- slot 5: size I
-- slot 6: sort I
-- slot 7: place I
-- slot 8: number I
-- slot 9: word J
-- slot 10: nName [J at place 2, 7 long
-- slot 11: nStep [I at place 3, 960 long
-- slot 12: nArg [I at place 4, 960 long
-- slot 13: nMany [I at place 5, 3 long
-- slot 14: step [I at place 6, 960 long
-- slot 15: arg [I at place 7, 960 long
-- slot 16: steps [I at place 8, 3 long
-- slot 17: open [I at place 9, 160 long
-- slot 18: values [I at place 10, 64 long
-- slot 19: nHasForm [Z at place 11, 3 long
-- slot 20: hasForm [Z at place 12, 3 long
-- slot 21: form I
-- slot 22: opens I
-- slot 23: nUnits I
-- slot 24: units I
-- slot 25: ownUnits I
-- slot 26: deep I
-- slot 27: asks [I at place 13, 4 long
-- slot 28: nHouse [I at place 14, 7 long
-- slot 29: nSide [I at place 15, 7 long
-- slot 30: nWakeful [I at place 16, 7 long
-- slot 31: house [I at place 17, 7 long
-- slot 32: wakeful [I at place 18, 7 long
-- slot 33: nMeetA [I at place 19, 10 long
-- slot 34: nMeetB [I at place 20, 10 long
-- slot 35: nMeetHours [I at place 21, 10 long
-- slot 36: nMeetWorth [I at place 22, 10 long
-- slot 37: meetA [I at place 23, 10 long
-- slot 38: meetB [I at place 24, 10 long
-- slot 39: meetHours [I at place 25, 10 long
-- slot 40: meetWorth [I at place 26, 10 long
-- slot 41: nNoiseOf [I at place 27, 8 long
-- slot 42: nNoiseAt [I at place 28, 8 long
-- slot 43: nNoiseLoud [I at place 29, 8 long
-- slot 44: noiseOf [I at place 30, 8 long
-- slot 45: noiseAt [I at place 31, 8 long
-- slot 46: noiseLoud [I at place 32, 8 long
-- slot 47: nPersons I
-- slot 48: nMeets I
-- slot 49: nNoises I
-- slot 50: nDate I
-- slot 51: persons I
-- slot 52: meets I
-- slot 53: noises I
-- slot 54: nHasDate Z
-- slot 55: now [I at place 33, 37 long
-- slot 56: air [I at place 34, 37 long
-- slot 57: hoursOf [I at place 35, 3 long
-- slot 58: harms [I at place 36, 56 long
-- slot 59: were [I at place 37, 1480 long
-- slot 60: acts I
-- slot 61: undone I
-- slot 62: lies [I at place 38, 7 long
-- slot 63: lain I
-- slot 64: litHouse [I at place 39, 30 long
-- slot 65: litHour [I at place 40, 30 long
-- slot 66: litTold [I at place 41, 30 long
-- slot 67: litUntold [I at place 42, 30 long
-- slot 68: litIs [Z at place 43, 30 long
-- slot 69: lights I
-- slot 70: time I
-- slot 71: nightTally [I at place 44, 7 long
-- slot 72: lightTally [I at place 45, 24 long
-- slot 73: hasBox [Z at place 46, 3 long
-- slot 74: boxes [I at place 47, 111 long
def fM (G : Gt) (m : Mem) : List Value := [.ref (G.2.2 1), .int (m.1 0 1), .int (m.1 0 2), .int (m.1 0 3), .int (m.1 0 4), .int (m.1 0 5), .int (m.1 0 6), .int (m.1 0 7), .int (m.1 0 8), .long (m.2.1 0 9), .ref (G.2.2 2), .ref (G.2.2 3), .ref (G.2.2 4), .ref (G.2.2 5), .ref (G.2.2 6), .ref (G.2.2 7), .ref (G.2.2 8), .ref (G.2.2 9), .ref (G.2.2 10), .ref (G.2.2 11), .ref (G.2.2 12), .int (m.1 0 21), .int (m.1 0 22), .int (m.1 0 23), .int (m.1 0 24), .int (m.1 0 25), .int (m.1 0 26), .ref (G.2.2 13), .ref (G.2.2 14), .ref (G.2.2 15), .ref (G.2.2 16), .ref (G.2.2 17), .ref (G.2.2 18), .ref (G.2.2 19), .ref (G.2.2 20), .ref (G.2.2 21), .ref (G.2.2 22), .ref (G.2.2 23), .ref (G.2.2 24), .ref (G.2.2 25), .ref (G.2.2 26), .ref (G.2.2 27), .ref (G.2.2 28), .ref (G.2.2 29), .ref (G.2.2 30), .ref (G.2.2 31), .ref (G.2.2 32), .int (m.1 0 47), .int (m.1 0 48), .int (m.1 0 49), .int (m.1 0 50), .int (m.1 0 51), .int (m.1 0 52), .int (m.1 0 53), .int (m.1 0 54), .ref (G.2.2 33), .ref (G.2.2 34), .ref (G.2.2 35), .ref (G.2.2 36), .ref (G.2.2 37), .int (m.1 0 60), .int (m.1 0 61), .ref (G.2.2 38), .int (m.1 0 63), .ref (G.2.2 39), .ref (G.2.2 40), .ref (G.2.2 41), .ref (G.2.2 42), .ref (G.2.2 43), .int (m.1 0 69), .int (m.1 0 70), .ref (G.2.2 44), .ref (G.2.2 45), .ref (G.2.2 46), .ref (G.2.2 47)]
def wM : Wf := fun G m => [(G.2.2 0, .inr (12, fM G m)), (G.2.2 1, .inl (G.2.1.1, 1600, .inl (m.1 1))), (G.2.2 2, .inl (G.2.1.2.2.1, 7, .inr (.inl (m.2.1 2)))), (G.2.2 3, .inl (G.2.1.1, 960, .inl (m.1 3))), (G.2.2 4, .inl (G.2.1.1, 960, .inl (m.1 4))), (G.2.2 5, .inl (G.2.1.1, 3, .inl (m.1 5))), (G.2.2 6, .inl (G.2.1.1, 960, .inl (m.1 6))), (G.2.2 7, .inl (G.2.1.1, 960, .inl (m.1 7))), (G.2.2 8, .inl (G.2.1.1, 3, .inl (m.1 8))), (G.2.2 9, .inl (G.2.1.1, 160, .inl (m.1 9))), (G.2.2 10, .inl (G.2.1.1, 64, .inl (m.1 10))), (G.2.2 11, .inl (G.2.1.2.2.2, 3, .inl (m.1 11))), (G.2.2 12, .inl (G.2.1.2.2.2, 3, .inl (m.1 12))), (G.2.2 13, .inl (G.2.1.1, 4, .inl (m.1 13))), (G.2.2 14, .inl (G.2.1.1, 7, .inl (m.1 14))), (G.2.2 15, .inl (G.2.1.1, 7, .inl (m.1 15))), (G.2.2 16, .inl (G.2.1.1, 7, .inl (m.1 16))), (G.2.2 17, .inl (G.2.1.1, 7, .inl (m.1 17))), (G.2.2 18, .inl (G.2.1.1, 7, .inl (m.1 18))), (G.2.2 19, .inl (G.2.1.1, 10, .inl (m.1 19))), (G.2.2 20, .inl (G.2.1.1, 10, .inl (m.1 20))), (G.2.2 21, .inl (G.2.1.1, 10, .inl (m.1 21))), (G.2.2 22, .inl (G.2.1.1, 10, .inl (m.1 22))), (G.2.2 23, .inl (G.2.1.1, 10, .inl (m.1 23))), (G.2.2 24, .inl (G.2.1.1, 10, .inl (m.1 24))), (G.2.2 25, .inl (G.2.1.1, 10, .inl (m.1 25))), (G.2.2 26, .inl (G.2.1.1, 10, .inl (m.1 26))), (G.2.2 27, .inl (G.2.1.1, 8, .inl (m.1 27))), (G.2.2 28, .inl (G.2.1.1, 8, .inl (m.1 28))), (G.2.2 29, .inl (G.2.1.1, 8, .inl (m.1 29))), (G.2.2 30, .inl (G.2.1.1, 8, .inl (m.1 30))), (G.2.2 31, .inl (G.2.1.1, 8, .inl (m.1 31))), (G.2.2 32, .inl (G.2.1.1, 8, .inl (m.1 32))), (G.2.2 33, .inl (G.2.1.1, 37, .inl (m.1 33))), (G.2.2 34, .inl (G.2.1.1, 37, .inl (m.1 34))), (G.2.2 35, .inl (G.2.1.1, 3, .inl (m.1 35))), (G.2.2 36, .inl (G.2.1.1, 56, .inl (m.1 36))), (G.2.2 37, .inl (G.2.1.1, 1480, .inl (m.1 37))), (G.2.2 38, .inl (G.2.1.1, 7, .inl (m.1 38))), (G.2.2 39, .inl (G.2.1.1, 30, .inl (m.1 39))), (G.2.2 40, .inl (G.2.1.1, 30, .inl (m.1 40))), (G.2.2 41, .inl (G.2.1.1, 30, .inl (m.1 41))), (G.2.2 42, .inl (G.2.1.1, 30, .inl (m.1 42))), (G.2.2 43, .inl (G.2.1.2.2.2, 30, .inl (m.1 43))), (G.2.2 44, .inl (G.2.1.1, 7, .inl (m.1 44))), (G.2.2 45, .inl (G.2.1.1, 24, .inl (m.1 45))), (G.2.2 46, .inl (G.2.1.2.2.2, 3, .inl (m.1 46))), (G.2.2 47, .inl (G.2.1.1, 111, .inl (m.1 47)))]
abbrev nM : Nat := 48
theorem in_of (ws : List Cond) (ps : List Nat) (hp : ws = ps.filterMap (fun i => lw_tbl[i]?)) (h : ws.all goodWord = true) : ∀ w ∈ ws, w ∈ WT := by
  intro w hw
  have h1 := List.all_eq_true.mp h w hw
  rw [hp] at hw
  obtain ⟨i, -, hi⟩ := List.mem_filterMap.mp hw
  exact wt_mem i hi h1
theorem inM : ∀ w ∈ u_ws RX12 TX12 75, w ∈ WT := in_of _ [1408, 1410, 1412, 1414, 1416, 1418, 1420, 1422, 1424, 1426, 1428, 1430, 1432, 1434, 1436, 1438, 1440, 1442, 1444, 1446, 1448, 1450, 1452, 1454, 1456, 1458, 1460, 1462, 1464, 1466, 1468, 1470, 1472, 1474, 1476, 1478, 1480, 1482, 1484, 1486, 1488, 1490, 1492, 1494, 1496, 1498, 1500, 1502, 1504, 1506, 1508, 1510, 1512, 1514, 1516, 1518, 1520, 1522, 1524, 1526, 1528, 1530, 1532, 1534, 1536, 1538, 1540, 1542, 1544, 1546, 1548, 1550, 1552, 1554, 1556] (by decide +kernel) (by decide +kernel)
theorem fl12_7 : Cond.fieldLink RX12 7 RX12 (TX12 0).2.1 (TX12 0).2.2.1 ∈ WT := wt_mem 1333 (by decide +kernel) rfl
theorem fl12_13 : Cond.fieldLink RX12 13 RX12 (TX12 3).2.1 (TX12 3).2.2.1 ∈ WT := wt_mem 1336 (by decide +kernel) rfl
theorem fl12_17 : Cond.fieldLink RX12 17 RX12 (TX12 10).2.1 (TX12 10).2.2.1 ∈ WT := wt_mem 1343 (by decide +kernel) rfl
theorem fl12_21 : Cond.fieldLink RX12 21 RX12 (TX12 11).2.1 (TX12 11).2.2.1 ∈ WT := wt_mem 1344 (by decide +kernel) rfl
theorem fl12_24 : Cond.fieldLink RX12 24 RX12 (TX12 12).2.1 (TX12 12).2.2.1 ∈ WT := wt_mem 1345 (by decide +kernel) rfl
theorem fl12_27 : Cond.fieldLink RX12 27 RX12 (TX12 13).2.1 (TX12 13).2.2.1 ∈ WT := wt_mem 1346 (by decide +kernel) rfl
theorem fl12_30 : Cond.fieldLink RX12 30 RX12 (TX12 14).2.1 (TX12 14).2.2.1 ∈ WT := wt_mem 1347 (by decide +kernel) rfl
theorem fl12_33 : Cond.fieldLink RX12 33 RX12 (TX12 15).2.1 (TX12 15).2.2.1 ∈ WT := wt_mem 1348 (by decide +kernel) rfl
theorem fl12_36 : Cond.fieldLink RX12 36 RX12 (TX12 16).2.1 (TX12 16).2.2.1 ∈ WT := wt_mem 1349 (by decide +kernel) rfl
theorem fl12_39 : Cond.fieldLink RX12 39 RX12 (TX12 17).2.1 (TX12 17).2.2.1 ∈ WT := wt_mem 1350 (by decide +kernel) rfl
theorem fl12_42 : Cond.fieldLink RX12 42 RX12 (TX12 18).2.1 (TX12 18).2.2.1 ∈ WT := wt_mem 1351 (by decide +kernel) rfl
theorem fl12_45 : Cond.fieldLink RX12 45 RX12 (TX12 19).2.1 (TX12 19).2.2.1 ∈ WT := wt_mem 1352 (by decide +kernel) rfl
theorem fl12_49 : Cond.fieldLink RX12 49 RX12 (TX12 20).2.1 (TX12 20).2.2.1 ∈ WT := wt_mem 1353 (by decide +kernel) rfl
theorem fl12_52 : Cond.fieldLink RX12 52 RX12 (TX12 27).2.1 (TX12 27).2.2.1 ∈ WT := wt_mem 1360 (by decide +kernel) rfl
theorem fl12_55 : Cond.fieldLink RX12 55 RX12 (TX12 28).2.1 (TX12 28).2.2.1 ∈ WT := wt_mem 1361 (by decide +kernel) rfl
theorem fl12_58 : Cond.fieldLink RX12 58 RX12 (TX12 29).2.1 (TX12 29).2.2.1 ∈ WT := wt_mem 1362 (by decide +kernel) rfl
theorem fl12_61 : Cond.fieldLink RX12 61 RX12 (TX12 30).2.1 (TX12 30).2.2.1 ∈ WT := wt_mem 1363 (by decide +kernel) rfl
theorem fl12_64 : Cond.fieldLink RX12 64 RX12 (TX12 31).2.1 (TX12 31).2.2.1 ∈ WT := wt_mem 1364 (by decide +kernel) rfl
theorem fl12_67 : Cond.fieldLink RX12 67 RX12 (TX12 32).2.1 (TX12 32).2.2.1 ∈ WT := wt_mem 1365 (by decide +kernel) rfl
theorem fl12_70 : Cond.fieldLink RX12 70 RX12 (TX12 33).2.1 (TX12 33).2.2.1 ∈ WT := wt_mem 1366 (by decide +kernel) rfl
theorem fl12_73 : Cond.fieldLink RX12 73 RX12 (TX12 34).2.1 (TX12 34).2.2.1 ∈ WT := wt_mem 1367 (by decide +kernel) rfl
theorem fl12_76 : Cond.fieldLink RX12 76 RX12 (TX12 35).2.1 (TX12 35).2.2.1 ∈ WT := wt_mem 1368 (by decide +kernel) rfl
theorem fl12_79 : Cond.fieldLink RX12 79 RX12 (TX12 36).2.1 (TX12 36).2.2.1 ∈ WT := wt_mem 1369 (by decide +kernel) rfl
theorem fl12_82 : Cond.fieldLink RX12 82 RX12 (TX12 37).2.1 (TX12 37).2.2.1 ∈ WT := wt_mem 1370 (by decide +kernel) rfl
theorem fl12_85 : Cond.fieldLink RX12 85 RX12 (TX12 38).2.1 (TX12 38).2.2.1 ∈ WT := wt_mem 1371 (by decide +kernel) rfl
theorem fl12_88 : Cond.fieldLink RX12 88 RX12 (TX12 39).2.1 (TX12 39).2.2.1 ∈ WT := wt_mem 1372 (by decide +kernel) rfl
theorem fl12_91 : Cond.fieldLink RX12 91 RX12 (TX12 40).2.1 (TX12 40).2.2.1 ∈ WT := wt_mem 1373 (by decide +kernel) rfl
theorem fl12_94 : Cond.fieldLink RX12 94 RX12 (TX12 41).2.1 (TX12 41).2.2.1 ∈ WT := wt_mem 1374 (by decide +kernel) rfl
theorem fl12_97 : Cond.fieldLink RX12 97 RX12 (TX12 42).2.1 (TX12 42).2.2.1 ∈ WT := wt_mem 1375 (by decide +kernel) rfl
theorem fl12_100 : Cond.fieldLink RX12 100 RX12 (TX12 43).2.1 (TX12 43).2.2.1 ∈ WT := wt_mem 1376 (by decide +kernel) rfl
theorem fl12_103 : Cond.fieldLink RX12 103 RX12 (TX12 44).2.1 (TX12 44).2.2.1 ∈ WT := wt_mem 1377 (by decide +kernel) rfl
theorem fl12_106 : Cond.fieldLink RX12 106 RX12 (TX12 45).2.1 (TX12 45).2.2.1 ∈ WT := wt_mem 1378 (by decide +kernel) rfl
theorem fl12_109 : Cond.fieldLink RX12 109 RX12 (TX12 46).2.1 (TX12 46).2.2.1 ∈ WT := wt_mem 1379 (by decide +kernel) rfl
theorem fl12_112 : Cond.fieldLink RX12 112 RX12 (TX12 55).2.1 (TX12 55).2.2.1 ∈ WT := wt_mem 1388 (by decide +kernel) rfl
theorem fl12_115 : Cond.fieldLink RX12 115 RX12 (TX12 56).2.1 (TX12 56).2.2.1 ∈ WT := wt_mem 1389 (by decide +kernel) rfl
theorem fl12_118 : Cond.fieldLink RX12 118 RX12 (TX12 57).2.1 (TX12 57).2.2.1 ∈ WT := wt_mem 1390 (by decide +kernel) rfl
theorem fl12_121 : Cond.fieldLink RX12 121 RX12 (TX12 58).2.1 (TX12 58).2.2.1 ∈ WT := wt_mem 1391 (by decide +kernel) rfl
theorem fl12_124 : Cond.fieldLink RX12 124 RX12 (TX12 59).2.1 (TX12 59).2.2.1 ∈ WT := wt_mem 1392 (by decide +kernel) rfl
theorem fl12_127 : Cond.fieldLink RX12 127 RX12 (TX12 62).2.1 (TX12 62).2.2.1 ∈ WT := wt_mem 1395 (by decide +kernel) rfl
theorem fl12_130 : Cond.fieldLink RX12 130 RX12 (TX12 64).2.1 (TX12 64).2.2.1 ∈ WT := wt_mem 1397 (by decide +kernel) rfl
theorem fl12_133 : Cond.fieldLink RX12 133 RX12 (TX12 65).2.1 (TX12 65).2.2.1 ∈ WT := wt_mem 1398 (by decide +kernel) rfl
theorem fl12_136 : Cond.fieldLink RX12 136 RX12 (TX12 66).2.1 (TX12 66).2.2.1 ∈ WT := wt_mem 1399 (by decide +kernel) rfl
theorem fl12_139 : Cond.fieldLink RX12 139 RX12 (TX12 67).2.1 (TX12 67).2.2.1 ∈ WT := wt_mem 1400 (by decide +kernel) rfl
theorem fl12_142 : Cond.fieldLink RX12 142 RX12 (TX12 68).2.1 (TX12 68).2.2.1 ∈ WT := wt_mem 1401 (by decide +kernel) rfl
theorem fl12_145 : Cond.fieldLink RX12 145 RX12 (TX12 71).2.1 (TX12 71).2.2.1 ∈ WT := wt_mem 1404 (by decide +kernel) rfl
theorem fl12_148 : Cond.fieldLink RX12 148 RX12 (TX12 72).2.1 (TX12 72).2.2.1 ∈ WT := wt_mem 1405 (by decide +kernel) rfl
theorem fl12_151 : Cond.fieldLink RX12 151 RX12 (TX12 73).2.1 (TX12 73).2.2.1 ∈ WT := wt_mem 1406 (by decide +kernel) rfl
theorem fl12_154 : Cond.fieldLink RX12 154 RX12 (TX12 74).2.1 (TX12 74).2.2.1 ∈ WT := wt_mem 1407 (by decide +kernel) rfl
theorem fl12_157 : Cond.fieldLink RX12 157 RX12 (TX12 1).2.1 (TX12 1).2.2.1 ∈ WT := wt_mem 1334 (by decide +kernel) rfl
theorem fl12_164 : Cond.fieldLink RX12 164 RX12 (TX12 4).2.1 (TX12 4).2.2.1 ∈ WT := wt_mem 1337 (by decide +kernel) rfl
theorem fl12_167 : Cond.fieldLink RX12 167 RX12 (TX12 5).2.1 (TX12 5).2.2.1 ∈ WT := wt_mem 1338 (by decide +kernel) rfl
theorem fl12_174 : Cond.fieldLink RX12 174 RX12 (TX12 7).2.1 (TX12 7).2.2.1 ∈ WT := wt_mem 1340 (by decide +kernel) rfl
theorem fl12_177 : Cond.fieldLink RX12 177 RX12 (TX12 9).2.1 (TX12 9).2.2.1 ∈ WT := wt_mem 1342 (by decide +kernel) rfl
theorem fl12_181 : Cond.fieldLink RX12 181 RX12 (TX12 8).2.1 (TX12 8).2.2.1 ∈ WT := wt_mem 1341 (by decide +kernel) rfl
theorem fl12_184 : Cond.fieldLink RX12 184 RX12 (TX12 6).2.1 (TX12 6).2.2.1 ∈ WT := wt_mem 1339 (by decide +kernel) rfl
theorem fl12_197 : Cond.fieldLink RX12 197 RX12 (TX12 2).2.1 (TX12 2).2.2.1 ∈ WT := wt_mem 1335 (by decide +kernel) rfl
theorem fl12_260 : Cond.fieldLink RX12 260 RX12 (TX12 47).2.1 (TX12 47).2.2.1 ∈ WT := wt_mem 1380 (by decide +kernel) rfl
theorem fl12_270 : Cond.fieldLink RX12 270 RX12 (TX12 21).2.1 (TX12 21).2.2.1 ∈ WT := wt_mem 1354 (by decide +kernel) rfl
theorem fl12_273 : Cond.fieldLink RX12 273 RX12 (TX12 22).2.1 (TX12 22).2.2.1 ∈ WT := wt_mem 1355 (by decide +kernel) rfl
theorem fl12_283 : Cond.fieldLink RX12 283 RX12 (TX12 26).2.1 (TX12 26).2.2.1 ∈ WT := wt_mem 1359 (by decide +kernel) rfl
theorem fl12_286 : Cond.fieldLink RX12 286 RX12 (TX12 23).2.1 (TX12 23).2.2.1 ∈ WT := wt_mem 1356 (by decide +kernel) rfl
theorem fl12_289 : Cond.fieldLink RX12 289 RX12 (TX12 25).2.1 (TX12 25).2.2.1 ∈ WT := wt_mem 1358 (by decide +kernel) rfl
theorem fl12_334 : Cond.fieldLink RX12 334 RX12 (TX12 48).2.1 (TX12 48).2.2.1 ∈ WT := wt_mem 1381 (by decide +kernel) rfl
theorem fl12_344 : Cond.fieldLink RX12 344 RX12 (TX12 49).2.1 (TX12 49).2.2.1 ∈ WT := wt_mem 1382 (by decide +kernel) rfl
theorem fl12_365 : Cond.fieldLink RX12 365 RX12 (TX12 54).2.1 (TX12 54).2.2.1 ∈ WT := wt_mem 1387 (by decide +kernel) rfl
theorem fl12_369 : Cond.fieldLink RX12 369 RX12 (TX12 50).2.1 (TX12 50).2.2.1 ∈ WT := wt_mem 1383 (by decide +kernel) rfl
theorem fl12_378 : Cond.fieldLink RX12 378 RX12 (TX12 51).2.1 (TX12 51).2.2.1 ∈ WT := wt_mem 1384 (by decide +kernel) rfl
theorem fl12_381 : Cond.fieldLink RX12 381 RX12 (TX12 52).2.1 (TX12 52).2.2.1 ∈ WT := wt_mem 1385 (by decide +kernel) rfl
theorem fl12_384 : Cond.fieldLink RX12 384 RX12 (TX12 53).2.1 (TX12 53).2.2.1 ∈ WT := wt_mem 1386 (by decide +kernel) rfl
theorem fl12_387 : Cond.fieldLink RX12 387 RX12 (TX12 24).2.1 (TX12 24).2.2.1 ∈ WT := wt_mem 1357 (by decide +kernel) rfl
theorem fl12_390 : Cond.fieldLink RX12 390 RX12 (TX12 60).2.1 (TX12 60).2.2.1 ∈ WT := wt_mem 1393 (by decide +kernel) rfl
theorem fl12_393 : Cond.fieldLink RX12 393 RX12 (TX12 61).2.1 (TX12 61).2.2.1 ∈ WT := wt_mem 1394 (by decide +kernel) rfl
theorem fl12_396 : Cond.fieldLink RX12 396 RX12 (TX12 69).2.1 (TX12 69).2.2.1 ∈ WT := wt_mem 1402 (by decide +kernel) rfl
theorem fl12_399 : Cond.fieldLink RX12 399 RX12 (TX12 63).2.1 (TX12 63).2.2.1 ∈ WT := wt_mem 1396 (by decide +kernel) rfl
theorem fl12_521 : Cond.fieldLink RX12 521 RX12 (TX12 70).2.1 (TX12 70).2.2.1 ∈ WT := wt_mem 1403 (by decide +kernel) rfl
theorem gM_0 {α : Type} {X : Cx} {G : Gt} {cc : ByteArray} {nL : Nat} {ret : Option FieldType} {lev : Nat} (h : OkX (X, G, wM, nM) cc RX12 nL ret lev) {cv : α → Option Value × Mem} {m : Mem} {pc nx : Nat} {ls : List (Option Value)} {st : List Value} {E : Option α} (d : DD cc pc (.getfield 7) 3 nx) (kk : JR (X, G, wM, nM) cv m nx ls (.ref (G.2.2 1) :: st) E) : JR (X, G, wM, nM) cv m pc ls (.ref (G.2.2 0) :: st) E := j_get (q0 := 0) (ci := 12) (fs := fM G m) (k := 0) h inM rfl rfl (by decide) fl12_7 rfl rfl d kk
theorem gM_1 {α : Type} {X : Cx} {G : Gt} {cc : ByteArray} {nL : Nat} {ret : Option FieldType} {lev : Nat} (h : OkX (X, G, wM, nM) cc RX12 nL ret lev) {cv : α → Option Value × Mem} {m : Mem} {pc nx : Nat} {ls : List (Option Value)} {st : List Value} {E : Option α} (d : DD cc pc (.getfield 157) 3 nx) (kk : JR (X, G, wM, nM) cv m nx ls (.int (m.1 0 1) :: st) E) : JR (X, G, wM, nM) cv m pc ls (.ref (G.2.2 0) :: st) E := j_get (q0 := 0) (ci := 12) (fs := fM G m) (k := 1) h inM rfl rfl (by decide) fl12_157 rfl rfl d kk
theorem pM_1 {α : Type} {X : Cx} {G : Gt} {cc : ByteArray} {nL : Nat} {ret : Option FieldType} {lev : Nat} (h : OkX (X, G, wM, nM) cc RX12 nL ret lev) {cv : α → Option Value × Mem} {m : Mem} {pc nx : Nat} {ls : List (Option Value)} {st : List Value} {K : Mem → Option α} {x : Int32} (d : DD cc pc (.putfield 157) 3 nx) (kk : ∀ m1, m1 = sI m 0 1 x → JR (X, G, wM, nM) cv m1 nx ls st (K m1)) : JR (X, G, wM, nM) cv m pc ls (.int x :: .ref (G.2.2 0) :: st) (pt (sI m 0 1 x) K) := j_put (q0 := 0) (ci := 12) (fs := fM G m) (k := 1) (ty0 := tyX12) h inM tyX12_ok nmX12 rfl rfl (by decide) fl12_157 ⟨rfl, rfl, rfl⟩ rfl rfl (Nat.lt_of_lt_of_eq (by decide : 1 < 75) rfl) rfl d kk
theorem gM_2 {α : Type} {X : Cx} {G : Gt} {cc : ByteArray} {nL : Nat} {ret : Option FieldType} {lev : Nat} (h : OkX (X, G, wM, nM) cc RX12 nL ret lev) {cv : α → Option Value × Mem} {m : Mem} {pc nx : Nat} {ls : List (Option Value)} {st : List Value} {E : Option α} (d : DD cc pc (.getfield 197) 3 nx) (kk : JR (X, G, wM, nM) cv m nx ls (.int (m.1 0 2) :: st) E) : JR (X, G, wM, nM) cv m pc ls (.ref (G.2.2 0) :: st) E := j_get (q0 := 0) (ci := 12) (fs := fM G m) (k := 2) h inM rfl rfl (by decide) fl12_197 rfl rfl d kk
theorem pM_2 {α : Type} {X : Cx} {G : Gt} {cc : ByteArray} {nL : Nat} {ret : Option FieldType} {lev : Nat} (h : OkX (X, G, wM, nM) cc RX12 nL ret lev) {cv : α → Option Value × Mem} {m : Mem} {pc nx : Nat} {ls : List (Option Value)} {st : List Value} {K : Mem → Option α} {x : Int32} (d : DD cc pc (.putfield 197) 3 nx) (kk : ∀ m1, m1 = sI m 0 2 x → JR (X, G, wM, nM) cv m1 nx ls st (K m1)) : JR (X, G, wM, nM) cv m pc ls (.int x :: .ref (G.2.2 0) :: st) (pt (sI m 0 2 x) K) := j_put (q0 := 0) (ci := 12) (fs := fM G m) (k := 2) (ty0 := tyX12) h inM tyX12_ok nmX12 rfl rfl (by decide) fl12_197 ⟨rfl, rfl, rfl⟩ rfl rfl (Nat.lt_of_lt_of_eq (by decide : 2 < 75) rfl) rfl d kk
theorem gM_3 {α : Type} {X : Cx} {G : Gt} {cc : ByteArray} {nL : Nat} {ret : Option FieldType} {lev : Nat} (h : OkX (X, G, wM, nM) cc RX12 nL ret lev) {cv : α → Option Value × Mem} {m : Mem} {pc nx : Nat} {ls : List (Option Value)} {st : List Value} {E : Option α} (d : DD cc pc (.getfield 13) 3 nx) (kk : JR (X, G, wM, nM) cv m nx ls (.int (m.1 0 3) :: st) E) : JR (X, G, wM, nM) cv m pc ls (.ref (G.2.2 0) :: st) E := j_get (q0 := 0) (ci := 12) (fs := fM G m) (k := 3) h inM rfl rfl (by decide) fl12_13 rfl rfl d kk
theorem pM_3 {α : Type} {X : Cx} {G : Gt} {cc : ByteArray} {nL : Nat} {ret : Option FieldType} {lev : Nat} (h : OkX (X, G, wM, nM) cc RX12 nL ret lev) {cv : α → Option Value × Mem} {m : Mem} {pc nx : Nat} {ls : List (Option Value)} {st : List Value} {K : Mem → Option α} {x : Int32} (d : DD cc pc (.putfield 13) 3 nx) (kk : ∀ m1, m1 = sI m 0 3 x → JR (X, G, wM, nM) cv m1 nx ls st (K m1)) : JR (X, G, wM, nM) cv m pc ls (.int x :: .ref (G.2.2 0) :: st) (pt (sI m 0 3 x) K) := j_put (q0 := 0) (ci := 12) (fs := fM G m) (k := 3) (ty0 := tyX12) h inM tyX12_ok nmX12 rfl rfl (by decide) fl12_13 ⟨rfl, rfl, rfl⟩ rfl rfl (Nat.lt_of_lt_of_eq (by decide : 3 < 75) rfl) rfl d kk
theorem gM_4 {α : Type} {X : Cx} {G : Gt} {cc : ByteArray} {nL : Nat} {ret : Option FieldType} {lev : Nat} (h : OkX (X, G, wM, nM) cc RX12 nL ret lev) {cv : α → Option Value × Mem} {m : Mem} {pc nx : Nat} {ls : List (Option Value)} {st : List Value} {E : Option α} (d : DD cc pc (.getfield 164) 3 nx) (kk : JR (X, G, wM, nM) cv m nx ls (.int (m.1 0 4) :: st) E) : JR (X, G, wM, nM) cv m pc ls (.ref (G.2.2 0) :: st) E := j_get (q0 := 0) (ci := 12) (fs := fM G m) (k := 4) h inM rfl rfl (by decide) fl12_164 rfl rfl d kk
theorem pM_4 {α : Type} {X : Cx} {G : Gt} {cc : ByteArray} {nL : Nat} {ret : Option FieldType} {lev : Nat} (h : OkX (X, G, wM, nM) cc RX12 nL ret lev) {cv : α → Option Value × Mem} {m : Mem} {pc nx : Nat} {ls : List (Option Value)} {st : List Value} {K : Mem → Option α} {x : Int32} (d : DD cc pc (.putfield 164) 3 nx) (kk : ∀ m1, m1 = sI m 0 4 x → JR (X, G, wM, nM) cv m1 nx ls st (K m1)) : JR (X, G, wM, nM) cv m pc ls (.int x :: .ref (G.2.2 0) :: st) (pt (sI m 0 4 x) K) := j_put (q0 := 0) (ci := 12) (fs := fM G m) (k := 4) (ty0 := tyX12) h inM tyX12_ok nmX12 rfl rfl (by decide) fl12_164 ⟨rfl, rfl, rfl⟩ rfl rfl (Nat.lt_of_lt_of_eq (by decide : 4 < 75) rfl) rfl d kk
theorem gM_5 {α : Type} {X : Cx} {G : Gt} {cc : ByteArray} {nL : Nat} {ret : Option FieldType} {lev : Nat} (h : OkX (X, G, wM, nM) cc RX12 nL ret lev) {cv : α → Option Value × Mem} {m : Mem} {pc nx : Nat} {ls : List (Option Value)} {st : List Value} {E : Option α} (d : DD cc pc (.getfield 167) 3 nx) (kk : JR (X, G, wM, nM) cv m nx ls (.int (m.1 0 5) :: st) E) : JR (X, G, wM, nM) cv m pc ls (.ref (G.2.2 0) :: st) E := j_get (q0 := 0) (ci := 12) (fs := fM G m) (k := 5) h inM rfl rfl (by decide) fl12_167 rfl rfl d kk
theorem pM_5 {α : Type} {X : Cx} {G : Gt} {cc : ByteArray} {nL : Nat} {ret : Option FieldType} {lev : Nat} (h : OkX (X, G, wM, nM) cc RX12 nL ret lev) {cv : α → Option Value × Mem} {m : Mem} {pc nx : Nat} {ls : List (Option Value)} {st : List Value} {K : Mem → Option α} {x : Int32} (d : DD cc pc (.putfield 167) 3 nx) (kk : ∀ m1, m1 = sI m 0 5 x → JR (X, G, wM, nM) cv m1 nx ls st (K m1)) : JR (X, G, wM, nM) cv m pc ls (.int x :: .ref (G.2.2 0) :: st) (pt (sI m 0 5 x) K) := j_put (q0 := 0) (ci := 12) (fs := fM G m) (k := 5) (ty0 := tyX12) h inM tyX12_ok nmX12 rfl rfl (by decide) fl12_167 ⟨rfl, rfl, rfl⟩ rfl rfl (Nat.lt_of_lt_of_eq (by decide : 5 < 75) rfl) rfl d kk
theorem gM_6 {α : Type} {X : Cx} {G : Gt} {cc : ByteArray} {nL : Nat} {ret : Option FieldType} {lev : Nat} (h : OkX (X, G, wM, nM) cc RX12 nL ret lev) {cv : α → Option Value × Mem} {m : Mem} {pc nx : Nat} {ls : List (Option Value)} {st : List Value} {E : Option α} (d : DD cc pc (.getfield 184) 3 nx) (kk : JR (X, G, wM, nM) cv m nx ls (.int (m.1 0 6) :: st) E) : JR (X, G, wM, nM) cv m pc ls (.ref (G.2.2 0) :: st) E := j_get (q0 := 0) (ci := 12) (fs := fM G m) (k := 6) h inM rfl rfl (by decide) fl12_184 rfl rfl d kk
theorem pM_6 {α : Type} {X : Cx} {G : Gt} {cc : ByteArray} {nL : Nat} {ret : Option FieldType} {lev : Nat} (h : OkX (X, G, wM, nM) cc RX12 nL ret lev) {cv : α → Option Value × Mem} {m : Mem} {pc nx : Nat} {ls : List (Option Value)} {st : List Value} {K : Mem → Option α} {x : Int32} (d : DD cc pc (.putfield 184) 3 nx) (kk : ∀ m1, m1 = sI m 0 6 x → JR (X, G, wM, nM) cv m1 nx ls st (K m1)) : JR (X, G, wM, nM) cv m pc ls (.int x :: .ref (G.2.2 0) :: st) (pt (sI m 0 6 x) K) := j_put (q0 := 0) (ci := 12) (fs := fM G m) (k := 6) (ty0 := tyX12) h inM tyX12_ok nmX12 rfl rfl (by decide) fl12_184 ⟨rfl, rfl, rfl⟩ rfl rfl (Nat.lt_of_lt_of_eq (by decide : 6 < 75) rfl) rfl d kk
theorem gM_7 {α : Type} {X : Cx} {G : Gt} {cc : ByteArray} {nL : Nat} {ret : Option FieldType} {lev : Nat} (h : OkX (X, G, wM, nM) cc RX12 nL ret lev) {cv : α → Option Value × Mem} {m : Mem} {pc nx : Nat} {ls : List (Option Value)} {st : List Value} {E : Option α} (d : DD cc pc (.getfield 174) 3 nx) (kk : JR (X, G, wM, nM) cv m nx ls (.int (m.1 0 7) :: st) E) : JR (X, G, wM, nM) cv m pc ls (.ref (G.2.2 0) :: st) E := j_get (q0 := 0) (ci := 12) (fs := fM G m) (k := 7) h inM rfl rfl (by decide) fl12_174 rfl rfl d kk
theorem pM_7 {α : Type} {X : Cx} {G : Gt} {cc : ByteArray} {nL : Nat} {ret : Option FieldType} {lev : Nat} (h : OkX (X, G, wM, nM) cc RX12 nL ret lev) {cv : α → Option Value × Mem} {m : Mem} {pc nx : Nat} {ls : List (Option Value)} {st : List Value} {K : Mem → Option α} {x : Int32} (d : DD cc pc (.putfield 174) 3 nx) (kk : ∀ m1, m1 = sI m 0 7 x → JR (X, G, wM, nM) cv m1 nx ls st (K m1)) : JR (X, G, wM, nM) cv m pc ls (.int x :: .ref (G.2.2 0) :: st) (pt (sI m 0 7 x) K) := j_put (q0 := 0) (ci := 12) (fs := fM G m) (k := 7) (ty0 := tyX12) h inM tyX12_ok nmX12 rfl rfl (by decide) fl12_174 ⟨rfl, rfl, rfl⟩ rfl rfl (Nat.lt_of_lt_of_eq (by decide : 7 < 75) rfl) rfl d kk
theorem gM_8 {α : Type} {X : Cx} {G : Gt} {cc : ByteArray} {nL : Nat} {ret : Option FieldType} {lev : Nat} (h : OkX (X, G, wM, nM) cc RX12 nL ret lev) {cv : α → Option Value × Mem} {m : Mem} {pc nx : Nat} {ls : List (Option Value)} {st : List Value} {E : Option α} (d : DD cc pc (.getfield 181) 3 nx) (kk : JR (X, G, wM, nM) cv m nx ls (.int (m.1 0 8) :: st) E) : JR (X, G, wM, nM) cv m pc ls (.ref (G.2.2 0) :: st) E := j_get (q0 := 0) (ci := 12) (fs := fM G m) (k := 8) h inM rfl rfl (by decide) fl12_181 rfl rfl d kk
theorem pM_8 {α : Type} {X : Cx} {G : Gt} {cc : ByteArray} {nL : Nat} {ret : Option FieldType} {lev : Nat} (h : OkX (X, G, wM, nM) cc RX12 nL ret lev) {cv : α → Option Value × Mem} {m : Mem} {pc nx : Nat} {ls : List (Option Value)} {st : List Value} {K : Mem → Option α} {x : Int32} (d : DD cc pc (.putfield 181) 3 nx) (kk : ∀ m1, m1 = sI m 0 8 x → JR (X, G, wM, nM) cv m1 nx ls st (K m1)) : JR (X, G, wM, nM) cv m pc ls (.int x :: .ref (G.2.2 0) :: st) (pt (sI m 0 8 x) K) := j_put (q0 := 0) (ci := 12) (fs := fM G m) (k := 8) (ty0 := tyX12) h inM tyX12_ok nmX12 rfl rfl (by decide) fl12_181 ⟨rfl, rfl, rfl⟩ rfl rfl (Nat.lt_of_lt_of_eq (by decide : 8 < 75) rfl) rfl d kk
theorem gM_9 {α : Type} {X : Cx} {G : Gt} {cc : ByteArray} {nL : Nat} {ret : Option FieldType} {lev : Nat} (h : OkX (X, G, wM, nM) cc RX12 nL ret lev) {cv : α → Option Value × Mem} {m : Mem} {pc nx : Nat} {ls : List (Option Value)} {st : List Value} {E : Option α} (d : DD cc pc (.getfield 177) 3 nx) (kk : JR (X, G, wM, nM) cv m nx ls (.long (m.2.1 0 9) :: st) E) : JR (X, G, wM, nM) cv m pc ls (.ref (G.2.2 0) :: st) E := j_get (q0 := 0) (ci := 12) (fs := fM G m) (k := 9) h inM rfl rfl (by decide) fl12_177 rfl rfl d kk
theorem pM_9 {α : Type} {X : Cx} {G : Gt} {cc : ByteArray} {nL : Nat} {ret : Option FieldType} {lev : Nat} (h : OkX (X, G, wM, nM) cc RX12 nL ret lev) {cv : α → Option Value × Mem} {m : Mem} {pc nx : Nat} {ls : List (Option Value)} {st : List Value} {K : Mem → Option α} {x : Int64} (d : DD cc pc (.putfield 177) 3 nx) (kk : ∀ m1, m1 = sL m 0 9 x → JR (X, G, wM, nM) cv m1 nx ls st (K m1)) : JR (X, G, wM, nM) cv m pc ls (.long x :: .ref (G.2.2 0) :: st) (pt (sL m 0 9 x) K) := j_put (q0 := 0) (ci := 12) (fs := fM G m) (k := 9) (ty0 := tyX12) h inM tyX12_ok nmX12 rfl rfl (by decide) fl12_177 ⟨rfl, rfl, rfl⟩ rfl rfl (Nat.lt_of_lt_of_eq (by decide : 9 < 75) rfl) rfl d kk
theorem gM_10 {α : Type} {X : Cx} {G : Gt} {cc : ByteArray} {nL : Nat} {ret : Option FieldType} {lev : Nat} (h : OkX (X, G, wM, nM) cc RX12 nL ret lev) {cv : α → Option Value × Mem} {m : Mem} {pc nx : Nat} {ls : List (Option Value)} {st : List Value} {E : Option α} (d : DD cc pc (.getfield 17) 3 nx) (kk : JR (X, G, wM, nM) cv m nx ls (.ref (G.2.2 2) :: st) E) : JR (X, G, wM, nM) cv m pc ls (.ref (G.2.2 0) :: st) E := j_get (q0 := 0) (ci := 12) (fs := fM G m) (k := 10) h inM rfl rfl (by decide) fl12_17 rfl rfl d kk
theorem gM_11 {α : Type} {X : Cx} {G : Gt} {cc : ByteArray} {nL : Nat} {ret : Option FieldType} {lev : Nat} (h : OkX (X, G, wM, nM) cc RX12 nL ret lev) {cv : α → Option Value × Mem} {m : Mem} {pc nx : Nat} {ls : List (Option Value)} {st : List Value} {E : Option α} (d : DD cc pc (.getfield 21) 3 nx) (kk : JR (X, G, wM, nM) cv m nx ls (.ref (G.2.2 3) :: st) E) : JR (X, G, wM, nM) cv m pc ls (.ref (G.2.2 0) :: st) E := j_get (q0 := 0) (ci := 12) (fs := fM G m) (k := 11) h inM rfl rfl (by decide) fl12_21 rfl rfl d kk
theorem gM_12 {α : Type} {X : Cx} {G : Gt} {cc : ByteArray} {nL : Nat} {ret : Option FieldType} {lev : Nat} (h : OkX (X, G, wM, nM) cc RX12 nL ret lev) {cv : α → Option Value × Mem} {m : Mem} {pc nx : Nat} {ls : List (Option Value)} {st : List Value} {E : Option α} (d : DD cc pc (.getfield 24) 3 nx) (kk : JR (X, G, wM, nM) cv m nx ls (.ref (G.2.2 4) :: st) E) : JR (X, G, wM, nM) cv m pc ls (.ref (G.2.2 0) :: st) E := j_get (q0 := 0) (ci := 12) (fs := fM G m) (k := 12) h inM rfl rfl (by decide) fl12_24 rfl rfl d kk
theorem gM_13 {α : Type} {X : Cx} {G : Gt} {cc : ByteArray} {nL : Nat} {ret : Option FieldType} {lev : Nat} (h : OkX (X, G, wM, nM) cc RX12 nL ret lev) {cv : α → Option Value × Mem} {m : Mem} {pc nx : Nat} {ls : List (Option Value)} {st : List Value} {E : Option α} (d : DD cc pc (.getfield 27) 3 nx) (kk : JR (X, G, wM, nM) cv m nx ls (.ref (G.2.2 5) :: st) E) : JR (X, G, wM, nM) cv m pc ls (.ref (G.2.2 0) :: st) E := j_get (q0 := 0) (ci := 12) (fs := fM G m) (k := 13) h inM rfl rfl (by decide) fl12_27 rfl rfl d kk
theorem gM_14 {α : Type} {X : Cx} {G : Gt} {cc : ByteArray} {nL : Nat} {ret : Option FieldType} {lev : Nat} (h : OkX (X, G, wM, nM) cc RX12 nL ret lev) {cv : α → Option Value × Mem} {m : Mem} {pc nx : Nat} {ls : List (Option Value)} {st : List Value} {E : Option α} (d : DD cc pc (.getfield 30) 3 nx) (kk : JR (X, G, wM, nM) cv m nx ls (.ref (G.2.2 6) :: st) E) : JR (X, G, wM, nM) cv m pc ls (.ref (G.2.2 0) :: st) E := j_get (q0 := 0) (ci := 12) (fs := fM G m) (k := 14) h inM rfl rfl (by decide) fl12_30 rfl rfl d kk
theorem gM_15 {α : Type} {X : Cx} {G : Gt} {cc : ByteArray} {nL : Nat} {ret : Option FieldType} {lev : Nat} (h : OkX (X, G, wM, nM) cc RX12 nL ret lev) {cv : α → Option Value × Mem} {m : Mem} {pc nx : Nat} {ls : List (Option Value)} {st : List Value} {E : Option α} (d : DD cc pc (.getfield 33) 3 nx) (kk : JR (X, G, wM, nM) cv m nx ls (.ref (G.2.2 7) :: st) E) : JR (X, G, wM, nM) cv m pc ls (.ref (G.2.2 0) :: st) E := j_get (q0 := 0) (ci := 12) (fs := fM G m) (k := 15) h inM rfl rfl (by decide) fl12_33 rfl rfl d kk
theorem gM_16 {α : Type} {X : Cx} {G : Gt} {cc : ByteArray} {nL : Nat} {ret : Option FieldType} {lev : Nat} (h : OkX (X, G, wM, nM) cc RX12 nL ret lev) {cv : α → Option Value × Mem} {m : Mem} {pc nx : Nat} {ls : List (Option Value)} {st : List Value} {E : Option α} (d : DD cc pc (.getfield 36) 3 nx) (kk : JR (X, G, wM, nM) cv m nx ls (.ref (G.2.2 8) :: st) E) : JR (X, G, wM, nM) cv m pc ls (.ref (G.2.2 0) :: st) E := j_get (q0 := 0) (ci := 12) (fs := fM G m) (k := 16) h inM rfl rfl (by decide) fl12_36 rfl rfl d kk
theorem gM_17 {α : Type} {X : Cx} {G : Gt} {cc : ByteArray} {nL : Nat} {ret : Option FieldType} {lev : Nat} (h : OkX (X, G, wM, nM) cc RX12 nL ret lev) {cv : α → Option Value × Mem} {m : Mem} {pc nx : Nat} {ls : List (Option Value)} {st : List Value} {E : Option α} (d : DD cc pc (.getfield 39) 3 nx) (kk : JR (X, G, wM, nM) cv m nx ls (.ref (G.2.2 9) :: st) E) : JR (X, G, wM, nM) cv m pc ls (.ref (G.2.2 0) :: st) E := j_get (q0 := 0) (ci := 12) (fs := fM G m) (k := 17) h inM rfl rfl (by decide) fl12_39 rfl rfl d kk
theorem gM_18 {α : Type} {X : Cx} {G : Gt} {cc : ByteArray} {nL : Nat} {ret : Option FieldType} {lev : Nat} (h : OkX (X, G, wM, nM) cc RX12 nL ret lev) {cv : α → Option Value × Mem} {m : Mem} {pc nx : Nat} {ls : List (Option Value)} {st : List Value} {E : Option α} (d : DD cc pc (.getfield 42) 3 nx) (kk : JR (X, G, wM, nM) cv m nx ls (.ref (G.2.2 10) :: st) E) : JR (X, G, wM, nM) cv m pc ls (.ref (G.2.2 0) :: st) E := j_get (q0 := 0) (ci := 12) (fs := fM G m) (k := 18) h inM rfl rfl (by decide) fl12_42 rfl rfl d kk
theorem gM_19 {α : Type} {X : Cx} {G : Gt} {cc : ByteArray} {nL : Nat} {ret : Option FieldType} {lev : Nat} (h : OkX (X, G, wM, nM) cc RX12 nL ret lev) {cv : α → Option Value × Mem} {m : Mem} {pc nx : Nat} {ls : List (Option Value)} {st : List Value} {E : Option α} (d : DD cc pc (.getfield 45) 3 nx) (kk : JR (X, G, wM, nM) cv m nx ls (.ref (G.2.2 11) :: st) E) : JR (X, G, wM, nM) cv m pc ls (.ref (G.2.2 0) :: st) E := j_get (q0 := 0) (ci := 12) (fs := fM G m) (k := 19) h inM rfl rfl (by decide) fl12_45 rfl rfl d kk
theorem gM_20 {α : Type} {X : Cx} {G : Gt} {cc : ByteArray} {nL : Nat} {ret : Option FieldType} {lev : Nat} (h : OkX (X, G, wM, nM) cc RX12 nL ret lev) {cv : α → Option Value × Mem} {m : Mem} {pc nx : Nat} {ls : List (Option Value)} {st : List Value} {E : Option α} (d : DD cc pc (.getfield 49) 3 nx) (kk : JR (X, G, wM, nM) cv m nx ls (.ref (G.2.2 12) :: st) E) : JR (X, G, wM, nM) cv m pc ls (.ref (G.2.2 0) :: st) E := j_get (q0 := 0) (ci := 12) (fs := fM G m) (k := 20) h inM rfl rfl (by decide) fl12_49 rfl rfl d kk
theorem gM_21 {α : Type} {X : Cx} {G : Gt} {cc : ByteArray} {nL : Nat} {ret : Option FieldType} {lev : Nat} (h : OkX (X, G, wM, nM) cc RX12 nL ret lev) {cv : α → Option Value × Mem} {m : Mem} {pc nx : Nat} {ls : List (Option Value)} {st : List Value} {E : Option α} (d : DD cc pc (.getfield 270) 3 nx) (kk : JR (X, G, wM, nM) cv m nx ls (.int (m.1 0 21) :: st) E) : JR (X, G, wM, nM) cv m pc ls (.ref (G.2.2 0) :: st) E := j_get (q0 := 0) (ci := 12) (fs := fM G m) (k := 21) h inM rfl rfl (by decide) fl12_270 rfl rfl d kk
theorem pM_21 {α : Type} {X : Cx} {G : Gt} {cc : ByteArray} {nL : Nat} {ret : Option FieldType} {lev : Nat} (h : OkX (X, G, wM, nM) cc RX12 nL ret lev) {cv : α → Option Value × Mem} {m : Mem} {pc nx : Nat} {ls : List (Option Value)} {st : List Value} {K : Mem → Option α} {x : Int32} (d : DD cc pc (.putfield 270) 3 nx) (kk : ∀ m1, m1 = sI m 0 21 x → JR (X, G, wM, nM) cv m1 nx ls st (K m1)) : JR (X, G, wM, nM) cv m pc ls (.int x :: .ref (G.2.2 0) :: st) (pt (sI m 0 21 x) K) := j_put (q0 := 0) (ci := 12) (fs := fM G m) (k := 21) (ty0 := tyX12) h inM tyX12_ok nmX12 rfl rfl (by decide) fl12_270 ⟨rfl, rfl, rfl⟩ rfl rfl (Nat.lt_of_lt_of_eq (by decide : 21 < 75) rfl) rfl d kk
theorem gM_22 {α : Type} {X : Cx} {G : Gt} {cc : ByteArray} {nL : Nat} {ret : Option FieldType} {lev : Nat} (h : OkX (X, G, wM, nM) cc RX12 nL ret lev) {cv : α → Option Value × Mem} {m : Mem} {pc nx : Nat} {ls : List (Option Value)} {st : List Value} {E : Option α} (d : DD cc pc (.getfield 273) 3 nx) (kk : JR (X, G, wM, nM) cv m nx ls (.int (m.1 0 22) :: st) E) : JR (X, G, wM, nM) cv m pc ls (.ref (G.2.2 0) :: st) E := j_get (q0 := 0) (ci := 12) (fs := fM G m) (k := 22) h inM rfl rfl (by decide) fl12_273 rfl rfl d kk
theorem pM_22 {α : Type} {X : Cx} {G : Gt} {cc : ByteArray} {nL : Nat} {ret : Option FieldType} {lev : Nat} (h : OkX (X, G, wM, nM) cc RX12 nL ret lev) {cv : α → Option Value × Mem} {m : Mem} {pc nx : Nat} {ls : List (Option Value)} {st : List Value} {K : Mem → Option α} {x : Int32} (d : DD cc pc (.putfield 273) 3 nx) (kk : ∀ m1, m1 = sI m 0 22 x → JR (X, G, wM, nM) cv m1 nx ls st (K m1)) : JR (X, G, wM, nM) cv m pc ls (.int x :: .ref (G.2.2 0) :: st) (pt (sI m 0 22 x) K) := j_put (q0 := 0) (ci := 12) (fs := fM G m) (k := 22) (ty0 := tyX12) h inM tyX12_ok nmX12 rfl rfl (by decide) fl12_273 ⟨rfl, rfl, rfl⟩ rfl rfl (Nat.lt_of_lt_of_eq (by decide : 22 < 75) rfl) rfl d kk
theorem gM_23 {α : Type} {X : Cx} {G : Gt} {cc : ByteArray} {nL : Nat} {ret : Option FieldType} {lev : Nat} (h : OkX (X, G, wM, nM) cc RX12 nL ret lev) {cv : α → Option Value × Mem} {m : Mem} {pc nx : Nat} {ls : List (Option Value)} {st : List Value} {E : Option α} (d : DD cc pc (.getfield 286) 3 nx) (kk : JR (X, G, wM, nM) cv m nx ls (.int (m.1 0 23) :: st) E) : JR (X, G, wM, nM) cv m pc ls (.ref (G.2.2 0) :: st) E := j_get (q0 := 0) (ci := 12) (fs := fM G m) (k := 23) h inM rfl rfl (by decide) fl12_286 rfl rfl d kk
theorem pM_23 {α : Type} {X : Cx} {G : Gt} {cc : ByteArray} {nL : Nat} {ret : Option FieldType} {lev : Nat} (h : OkX (X, G, wM, nM) cc RX12 nL ret lev) {cv : α → Option Value × Mem} {m : Mem} {pc nx : Nat} {ls : List (Option Value)} {st : List Value} {K : Mem → Option α} {x : Int32} (d : DD cc pc (.putfield 286) 3 nx) (kk : ∀ m1, m1 = sI m 0 23 x → JR (X, G, wM, nM) cv m1 nx ls st (K m1)) : JR (X, G, wM, nM) cv m pc ls (.int x :: .ref (G.2.2 0) :: st) (pt (sI m 0 23 x) K) := j_put (q0 := 0) (ci := 12) (fs := fM G m) (k := 23) (ty0 := tyX12) h inM tyX12_ok nmX12 rfl rfl (by decide) fl12_286 ⟨rfl, rfl, rfl⟩ rfl rfl (Nat.lt_of_lt_of_eq (by decide : 23 < 75) rfl) rfl d kk
theorem gM_24 {α : Type} {X : Cx} {G : Gt} {cc : ByteArray} {nL : Nat} {ret : Option FieldType} {lev : Nat} (h : OkX (X, G, wM, nM) cc RX12 nL ret lev) {cv : α → Option Value × Mem} {m : Mem} {pc nx : Nat} {ls : List (Option Value)} {st : List Value} {E : Option α} (d : DD cc pc (.getfield 387) 3 nx) (kk : JR (X, G, wM, nM) cv m nx ls (.int (m.1 0 24) :: st) E) : JR (X, G, wM, nM) cv m pc ls (.ref (G.2.2 0) :: st) E := j_get (q0 := 0) (ci := 12) (fs := fM G m) (k := 24) h inM rfl rfl (by decide) fl12_387 rfl rfl d kk
theorem pM_24 {α : Type} {X : Cx} {G : Gt} {cc : ByteArray} {nL : Nat} {ret : Option FieldType} {lev : Nat} (h : OkX (X, G, wM, nM) cc RX12 nL ret lev) {cv : α → Option Value × Mem} {m : Mem} {pc nx : Nat} {ls : List (Option Value)} {st : List Value} {K : Mem → Option α} {x : Int32} (d : DD cc pc (.putfield 387) 3 nx) (kk : ∀ m1, m1 = sI m 0 24 x → JR (X, G, wM, nM) cv m1 nx ls st (K m1)) : JR (X, G, wM, nM) cv m pc ls (.int x :: .ref (G.2.2 0) :: st) (pt (sI m 0 24 x) K) := j_put (q0 := 0) (ci := 12) (fs := fM G m) (k := 24) (ty0 := tyX12) h inM tyX12_ok nmX12 rfl rfl (by decide) fl12_387 ⟨rfl, rfl, rfl⟩ rfl rfl (Nat.lt_of_lt_of_eq (by decide : 24 < 75) rfl) rfl d kk
theorem gM_25 {α : Type} {X : Cx} {G : Gt} {cc : ByteArray} {nL : Nat} {ret : Option FieldType} {lev : Nat} (h : OkX (X, G, wM, nM) cc RX12 nL ret lev) {cv : α → Option Value × Mem} {m : Mem} {pc nx : Nat} {ls : List (Option Value)} {st : List Value} {E : Option α} (d : DD cc pc (.getfield 289) 3 nx) (kk : JR (X, G, wM, nM) cv m nx ls (.int (m.1 0 25) :: st) E) : JR (X, G, wM, nM) cv m pc ls (.ref (G.2.2 0) :: st) E := j_get (q0 := 0) (ci := 12) (fs := fM G m) (k := 25) h inM rfl rfl (by decide) fl12_289 rfl rfl d kk
theorem pM_25 {α : Type} {X : Cx} {G : Gt} {cc : ByteArray} {nL : Nat} {ret : Option FieldType} {lev : Nat} (h : OkX (X, G, wM, nM) cc RX12 nL ret lev) {cv : α → Option Value × Mem} {m : Mem} {pc nx : Nat} {ls : List (Option Value)} {st : List Value} {K : Mem → Option α} {x : Int32} (d : DD cc pc (.putfield 289) 3 nx) (kk : ∀ m1, m1 = sI m 0 25 x → JR (X, G, wM, nM) cv m1 nx ls st (K m1)) : JR (X, G, wM, nM) cv m pc ls (.int x :: .ref (G.2.2 0) :: st) (pt (sI m 0 25 x) K) := j_put (q0 := 0) (ci := 12) (fs := fM G m) (k := 25) (ty0 := tyX12) h inM tyX12_ok nmX12 rfl rfl (by decide) fl12_289 ⟨rfl, rfl, rfl⟩ rfl rfl (Nat.lt_of_lt_of_eq (by decide : 25 < 75) rfl) rfl d kk
theorem gM_26 {α : Type} {X : Cx} {G : Gt} {cc : ByteArray} {nL : Nat} {ret : Option FieldType} {lev : Nat} (h : OkX (X, G, wM, nM) cc RX12 nL ret lev) {cv : α → Option Value × Mem} {m : Mem} {pc nx : Nat} {ls : List (Option Value)} {st : List Value} {E : Option α} (d : DD cc pc (.getfield 283) 3 nx) (kk : JR (X, G, wM, nM) cv m nx ls (.int (m.1 0 26) :: st) E) : JR (X, G, wM, nM) cv m pc ls (.ref (G.2.2 0) :: st) E := j_get (q0 := 0) (ci := 12) (fs := fM G m) (k := 26) h inM rfl rfl (by decide) fl12_283 rfl rfl d kk
theorem pM_26 {α : Type} {X : Cx} {G : Gt} {cc : ByteArray} {nL : Nat} {ret : Option FieldType} {lev : Nat} (h : OkX (X, G, wM, nM) cc RX12 nL ret lev) {cv : α → Option Value × Mem} {m : Mem} {pc nx : Nat} {ls : List (Option Value)} {st : List Value} {K : Mem → Option α} {x : Int32} (d : DD cc pc (.putfield 283) 3 nx) (kk : ∀ m1, m1 = sI m 0 26 x → JR (X, G, wM, nM) cv m1 nx ls st (K m1)) : JR (X, G, wM, nM) cv m pc ls (.int x :: .ref (G.2.2 0) :: st) (pt (sI m 0 26 x) K) := j_put (q0 := 0) (ci := 12) (fs := fM G m) (k := 26) (ty0 := tyX12) h inM tyX12_ok nmX12 rfl rfl (by decide) fl12_283 ⟨rfl, rfl, rfl⟩ rfl rfl (Nat.lt_of_lt_of_eq (by decide : 26 < 75) rfl) rfl d kk
theorem gM_27 {α : Type} {X : Cx} {G : Gt} {cc : ByteArray} {nL : Nat} {ret : Option FieldType} {lev : Nat} (h : OkX (X, G, wM, nM) cc RX12 nL ret lev) {cv : α → Option Value × Mem} {m : Mem} {pc nx : Nat} {ls : List (Option Value)} {st : List Value} {E : Option α} (d : DD cc pc (.getfield 52) 3 nx) (kk : JR (X, G, wM, nM) cv m nx ls (.ref (G.2.2 13) :: st) E) : JR (X, G, wM, nM) cv m pc ls (.ref (G.2.2 0) :: st) E := j_get (q0 := 0) (ci := 12) (fs := fM G m) (k := 27) h inM rfl rfl (by decide) fl12_52 rfl rfl d kk
theorem gM_28 {α : Type} {X : Cx} {G : Gt} {cc : ByteArray} {nL : Nat} {ret : Option FieldType} {lev : Nat} (h : OkX (X, G, wM, nM) cc RX12 nL ret lev) {cv : α → Option Value × Mem} {m : Mem} {pc nx : Nat} {ls : List (Option Value)} {st : List Value} {E : Option α} (d : DD cc pc (.getfield 55) 3 nx) (kk : JR (X, G, wM, nM) cv m nx ls (.ref (G.2.2 14) :: st) E) : JR (X, G, wM, nM) cv m pc ls (.ref (G.2.2 0) :: st) E := j_get (q0 := 0) (ci := 12) (fs := fM G m) (k := 28) h inM rfl rfl (by decide) fl12_55 rfl rfl d kk
theorem gM_29 {α : Type} {X : Cx} {G : Gt} {cc : ByteArray} {nL : Nat} {ret : Option FieldType} {lev : Nat} (h : OkX (X, G, wM, nM) cc RX12 nL ret lev) {cv : α → Option Value × Mem} {m : Mem} {pc nx : Nat} {ls : List (Option Value)} {st : List Value} {E : Option α} (d : DD cc pc (.getfield 58) 3 nx) (kk : JR (X, G, wM, nM) cv m nx ls (.ref (G.2.2 15) :: st) E) : JR (X, G, wM, nM) cv m pc ls (.ref (G.2.2 0) :: st) E := j_get (q0 := 0) (ci := 12) (fs := fM G m) (k := 29) h inM rfl rfl (by decide) fl12_58 rfl rfl d kk
theorem gM_30 {α : Type} {X : Cx} {G : Gt} {cc : ByteArray} {nL : Nat} {ret : Option FieldType} {lev : Nat} (h : OkX (X, G, wM, nM) cc RX12 nL ret lev) {cv : α → Option Value × Mem} {m : Mem} {pc nx : Nat} {ls : List (Option Value)} {st : List Value} {E : Option α} (d : DD cc pc (.getfield 61) 3 nx) (kk : JR (X, G, wM, nM) cv m nx ls (.ref (G.2.2 16) :: st) E) : JR (X, G, wM, nM) cv m pc ls (.ref (G.2.2 0) :: st) E := j_get (q0 := 0) (ci := 12) (fs := fM G m) (k := 30) h inM rfl rfl (by decide) fl12_61 rfl rfl d kk
theorem gM_31 {α : Type} {X : Cx} {G : Gt} {cc : ByteArray} {nL : Nat} {ret : Option FieldType} {lev : Nat} (h : OkX (X, G, wM, nM) cc RX12 nL ret lev) {cv : α → Option Value × Mem} {m : Mem} {pc nx : Nat} {ls : List (Option Value)} {st : List Value} {E : Option α} (d : DD cc pc (.getfield 64) 3 nx) (kk : JR (X, G, wM, nM) cv m nx ls (.ref (G.2.2 17) :: st) E) : JR (X, G, wM, nM) cv m pc ls (.ref (G.2.2 0) :: st) E := j_get (q0 := 0) (ci := 12) (fs := fM G m) (k := 31) h inM rfl rfl (by decide) fl12_64 rfl rfl d kk
theorem gM_32 {α : Type} {X : Cx} {G : Gt} {cc : ByteArray} {nL : Nat} {ret : Option FieldType} {lev : Nat} (h : OkX (X, G, wM, nM) cc RX12 nL ret lev) {cv : α → Option Value × Mem} {m : Mem} {pc nx : Nat} {ls : List (Option Value)} {st : List Value} {E : Option α} (d : DD cc pc (.getfield 67) 3 nx) (kk : JR (X, G, wM, nM) cv m nx ls (.ref (G.2.2 18) :: st) E) : JR (X, G, wM, nM) cv m pc ls (.ref (G.2.2 0) :: st) E := j_get (q0 := 0) (ci := 12) (fs := fM G m) (k := 32) h inM rfl rfl (by decide) fl12_67 rfl rfl d kk
theorem gM_33 {α : Type} {X : Cx} {G : Gt} {cc : ByteArray} {nL : Nat} {ret : Option FieldType} {lev : Nat} (h : OkX (X, G, wM, nM) cc RX12 nL ret lev) {cv : α → Option Value × Mem} {m : Mem} {pc nx : Nat} {ls : List (Option Value)} {st : List Value} {E : Option α} (d : DD cc pc (.getfield 70) 3 nx) (kk : JR (X, G, wM, nM) cv m nx ls (.ref (G.2.2 19) :: st) E) : JR (X, G, wM, nM) cv m pc ls (.ref (G.2.2 0) :: st) E := j_get (q0 := 0) (ci := 12) (fs := fM G m) (k := 33) h inM rfl rfl (by decide) fl12_70 rfl rfl d kk
theorem gM_34 {α : Type} {X : Cx} {G : Gt} {cc : ByteArray} {nL : Nat} {ret : Option FieldType} {lev : Nat} (h : OkX (X, G, wM, nM) cc RX12 nL ret lev) {cv : α → Option Value × Mem} {m : Mem} {pc nx : Nat} {ls : List (Option Value)} {st : List Value} {E : Option α} (d : DD cc pc (.getfield 73) 3 nx) (kk : JR (X, G, wM, nM) cv m nx ls (.ref (G.2.2 20) :: st) E) : JR (X, G, wM, nM) cv m pc ls (.ref (G.2.2 0) :: st) E := j_get (q0 := 0) (ci := 12) (fs := fM G m) (k := 34) h inM rfl rfl (by decide) fl12_73 rfl rfl d kk
theorem gM_35 {α : Type} {X : Cx} {G : Gt} {cc : ByteArray} {nL : Nat} {ret : Option FieldType} {lev : Nat} (h : OkX (X, G, wM, nM) cc RX12 nL ret lev) {cv : α → Option Value × Mem} {m : Mem} {pc nx : Nat} {ls : List (Option Value)} {st : List Value} {E : Option α} (d : DD cc pc (.getfield 76) 3 nx) (kk : JR (X, G, wM, nM) cv m nx ls (.ref (G.2.2 21) :: st) E) : JR (X, G, wM, nM) cv m pc ls (.ref (G.2.2 0) :: st) E := j_get (q0 := 0) (ci := 12) (fs := fM G m) (k := 35) h inM rfl rfl (by decide) fl12_76 rfl rfl d kk
theorem gM_36 {α : Type} {X : Cx} {G : Gt} {cc : ByteArray} {nL : Nat} {ret : Option FieldType} {lev : Nat} (h : OkX (X, G, wM, nM) cc RX12 nL ret lev) {cv : α → Option Value × Mem} {m : Mem} {pc nx : Nat} {ls : List (Option Value)} {st : List Value} {E : Option α} (d : DD cc pc (.getfield 79) 3 nx) (kk : JR (X, G, wM, nM) cv m nx ls (.ref (G.2.2 22) :: st) E) : JR (X, G, wM, nM) cv m pc ls (.ref (G.2.2 0) :: st) E := j_get (q0 := 0) (ci := 12) (fs := fM G m) (k := 36) h inM rfl rfl (by decide) fl12_79 rfl rfl d kk
theorem gM_37 {α : Type} {X : Cx} {G : Gt} {cc : ByteArray} {nL : Nat} {ret : Option FieldType} {lev : Nat} (h : OkX (X, G, wM, nM) cc RX12 nL ret lev) {cv : α → Option Value × Mem} {m : Mem} {pc nx : Nat} {ls : List (Option Value)} {st : List Value} {E : Option α} (d : DD cc pc (.getfield 82) 3 nx) (kk : JR (X, G, wM, nM) cv m nx ls (.ref (G.2.2 23) :: st) E) : JR (X, G, wM, nM) cv m pc ls (.ref (G.2.2 0) :: st) E := j_get (q0 := 0) (ci := 12) (fs := fM G m) (k := 37) h inM rfl rfl (by decide) fl12_82 rfl rfl d kk
theorem gM_38 {α : Type} {X : Cx} {G : Gt} {cc : ByteArray} {nL : Nat} {ret : Option FieldType} {lev : Nat} (h : OkX (X, G, wM, nM) cc RX12 nL ret lev) {cv : α → Option Value × Mem} {m : Mem} {pc nx : Nat} {ls : List (Option Value)} {st : List Value} {E : Option α} (d : DD cc pc (.getfield 85) 3 nx) (kk : JR (X, G, wM, nM) cv m nx ls (.ref (G.2.2 24) :: st) E) : JR (X, G, wM, nM) cv m pc ls (.ref (G.2.2 0) :: st) E := j_get (q0 := 0) (ci := 12) (fs := fM G m) (k := 38) h inM rfl rfl (by decide) fl12_85 rfl rfl d kk
theorem gM_39 {α : Type} {X : Cx} {G : Gt} {cc : ByteArray} {nL : Nat} {ret : Option FieldType} {lev : Nat} (h : OkX (X, G, wM, nM) cc RX12 nL ret lev) {cv : α → Option Value × Mem} {m : Mem} {pc nx : Nat} {ls : List (Option Value)} {st : List Value} {E : Option α} (d : DD cc pc (.getfield 88) 3 nx) (kk : JR (X, G, wM, nM) cv m nx ls (.ref (G.2.2 25) :: st) E) : JR (X, G, wM, nM) cv m pc ls (.ref (G.2.2 0) :: st) E := j_get (q0 := 0) (ci := 12) (fs := fM G m) (k := 39) h inM rfl rfl (by decide) fl12_88 rfl rfl d kk
theorem gM_40 {α : Type} {X : Cx} {G : Gt} {cc : ByteArray} {nL : Nat} {ret : Option FieldType} {lev : Nat} (h : OkX (X, G, wM, nM) cc RX12 nL ret lev) {cv : α → Option Value × Mem} {m : Mem} {pc nx : Nat} {ls : List (Option Value)} {st : List Value} {E : Option α} (d : DD cc pc (.getfield 91) 3 nx) (kk : JR (X, G, wM, nM) cv m nx ls (.ref (G.2.2 26) :: st) E) : JR (X, G, wM, nM) cv m pc ls (.ref (G.2.2 0) :: st) E := j_get (q0 := 0) (ci := 12) (fs := fM G m) (k := 40) h inM rfl rfl (by decide) fl12_91 rfl rfl d kk
theorem gM_41 {α : Type} {X : Cx} {G : Gt} {cc : ByteArray} {nL : Nat} {ret : Option FieldType} {lev : Nat} (h : OkX (X, G, wM, nM) cc RX12 nL ret lev) {cv : α → Option Value × Mem} {m : Mem} {pc nx : Nat} {ls : List (Option Value)} {st : List Value} {E : Option α} (d : DD cc pc (.getfield 94) 3 nx) (kk : JR (X, G, wM, nM) cv m nx ls (.ref (G.2.2 27) :: st) E) : JR (X, G, wM, nM) cv m pc ls (.ref (G.2.2 0) :: st) E := j_get (q0 := 0) (ci := 12) (fs := fM G m) (k := 41) h inM rfl rfl (by decide) fl12_94 rfl rfl d kk
theorem gM_42 {α : Type} {X : Cx} {G : Gt} {cc : ByteArray} {nL : Nat} {ret : Option FieldType} {lev : Nat} (h : OkX (X, G, wM, nM) cc RX12 nL ret lev) {cv : α → Option Value × Mem} {m : Mem} {pc nx : Nat} {ls : List (Option Value)} {st : List Value} {E : Option α} (d : DD cc pc (.getfield 97) 3 nx) (kk : JR (X, G, wM, nM) cv m nx ls (.ref (G.2.2 28) :: st) E) : JR (X, G, wM, nM) cv m pc ls (.ref (G.2.2 0) :: st) E := j_get (q0 := 0) (ci := 12) (fs := fM G m) (k := 42) h inM rfl rfl (by decide) fl12_97 rfl rfl d kk
theorem gM_43 {α : Type} {X : Cx} {G : Gt} {cc : ByteArray} {nL : Nat} {ret : Option FieldType} {lev : Nat} (h : OkX (X, G, wM, nM) cc RX12 nL ret lev) {cv : α → Option Value × Mem} {m : Mem} {pc nx : Nat} {ls : List (Option Value)} {st : List Value} {E : Option α} (d : DD cc pc (.getfield 100) 3 nx) (kk : JR (X, G, wM, nM) cv m nx ls (.ref (G.2.2 29) :: st) E) : JR (X, G, wM, nM) cv m pc ls (.ref (G.2.2 0) :: st) E := j_get (q0 := 0) (ci := 12) (fs := fM G m) (k := 43) h inM rfl rfl (by decide) fl12_100 rfl rfl d kk
theorem gM_44 {α : Type} {X : Cx} {G : Gt} {cc : ByteArray} {nL : Nat} {ret : Option FieldType} {lev : Nat} (h : OkX (X, G, wM, nM) cc RX12 nL ret lev) {cv : α → Option Value × Mem} {m : Mem} {pc nx : Nat} {ls : List (Option Value)} {st : List Value} {E : Option α} (d : DD cc pc (.getfield 103) 3 nx) (kk : JR (X, G, wM, nM) cv m nx ls (.ref (G.2.2 30) :: st) E) : JR (X, G, wM, nM) cv m pc ls (.ref (G.2.2 0) :: st) E := j_get (q0 := 0) (ci := 12) (fs := fM G m) (k := 44) h inM rfl rfl (by decide) fl12_103 rfl rfl d kk
theorem gM_45 {α : Type} {X : Cx} {G : Gt} {cc : ByteArray} {nL : Nat} {ret : Option FieldType} {lev : Nat} (h : OkX (X, G, wM, nM) cc RX12 nL ret lev) {cv : α → Option Value × Mem} {m : Mem} {pc nx : Nat} {ls : List (Option Value)} {st : List Value} {E : Option α} (d : DD cc pc (.getfield 106) 3 nx) (kk : JR (X, G, wM, nM) cv m nx ls (.ref (G.2.2 31) :: st) E) : JR (X, G, wM, nM) cv m pc ls (.ref (G.2.2 0) :: st) E := j_get (q0 := 0) (ci := 12) (fs := fM G m) (k := 45) h inM rfl rfl (by decide) fl12_106 rfl rfl d kk
theorem gM_46 {α : Type} {X : Cx} {G : Gt} {cc : ByteArray} {nL : Nat} {ret : Option FieldType} {lev : Nat} (h : OkX (X, G, wM, nM) cc RX12 nL ret lev) {cv : α → Option Value × Mem} {m : Mem} {pc nx : Nat} {ls : List (Option Value)} {st : List Value} {E : Option α} (d : DD cc pc (.getfield 109) 3 nx) (kk : JR (X, G, wM, nM) cv m nx ls (.ref (G.2.2 32) :: st) E) : JR (X, G, wM, nM) cv m pc ls (.ref (G.2.2 0) :: st) E := j_get (q0 := 0) (ci := 12) (fs := fM G m) (k := 46) h inM rfl rfl (by decide) fl12_109 rfl rfl d kk
theorem gM_47 {α : Type} {X : Cx} {G : Gt} {cc : ByteArray} {nL : Nat} {ret : Option FieldType} {lev : Nat} (h : OkX (X, G, wM, nM) cc RX12 nL ret lev) {cv : α → Option Value × Mem} {m : Mem} {pc nx : Nat} {ls : List (Option Value)} {st : List Value} {E : Option α} (d : DD cc pc (.getfield 260) 3 nx) (kk : JR (X, G, wM, nM) cv m nx ls (.int (m.1 0 47) :: st) E) : JR (X, G, wM, nM) cv m pc ls (.ref (G.2.2 0) :: st) E := j_get (q0 := 0) (ci := 12) (fs := fM G m) (k := 47) h inM rfl rfl (by decide) fl12_260 rfl rfl d kk
theorem pM_47 {α : Type} {X : Cx} {G : Gt} {cc : ByteArray} {nL : Nat} {ret : Option FieldType} {lev : Nat} (h : OkX (X, G, wM, nM) cc RX12 nL ret lev) {cv : α → Option Value × Mem} {m : Mem} {pc nx : Nat} {ls : List (Option Value)} {st : List Value} {K : Mem → Option α} {x : Int32} (d : DD cc pc (.putfield 260) 3 nx) (kk : ∀ m1, m1 = sI m 0 47 x → JR (X, G, wM, nM) cv m1 nx ls st (K m1)) : JR (X, G, wM, nM) cv m pc ls (.int x :: .ref (G.2.2 0) :: st) (pt (sI m 0 47 x) K) := j_put (q0 := 0) (ci := 12) (fs := fM G m) (k := 47) (ty0 := tyX12) h inM tyX12_ok nmX12 rfl rfl (by decide) fl12_260 ⟨rfl, rfl, rfl⟩ rfl rfl (Nat.lt_of_lt_of_eq (by decide : 47 < 75) rfl) rfl d kk
theorem gM_48 {α : Type} {X : Cx} {G : Gt} {cc : ByteArray} {nL : Nat} {ret : Option FieldType} {lev : Nat} (h : OkX (X, G, wM, nM) cc RX12 nL ret lev) {cv : α → Option Value × Mem} {m : Mem} {pc nx : Nat} {ls : List (Option Value)} {st : List Value} {E : Option α} (d : DD cc pc (.getfield 334) 3 nx) (kk : JR (X, G, wM, nM) cv m nx ls (.int (m.1 0 48) :: st) E) : JR (X, G, wM, nM) cv m pc ls (.ref (G.2.2 0) :: st) E := j_get (q0 := 0) (ci := 12) (fs := fM G m) (k := 48) h inM rfl rfl (by decide) fl12_334 rfl rfl d kk
theorem pM_48 {α : Type} {X : Cx} {G : Gt} {cc : ByteArray} {nL : Nat} {ret : Option FieldType} {lev : Nat} (h : OkX (X, G, wM, nM) cc RX12 nL ret lev) {cv : α → Option Value × Mem} {m : Mem} {pc nx : Nat} {ls : List (Option Value)} {st : List Value} {K : Mem → Option α} {x : Int32} (d : DD cc pc (.putfield 334) 3 nx) (kk : ∀ m1, m1 = sI m 0 48 x → JR (X, G, wM, nM) cv m1 nx ls st (K m1)) : JR (X, G, wM, nM) cv m pc ls (.int x :: .ref (G.2.2 0) :: st) (pt (sI m 0 48 x) K) := j_put (q0 := 0) (ci := 12) (fs := fM G m) (k := 48) (ty0 := tyX12) h inM tyX12_ok nmX12 rfl rfl (by decide) fl12_334 ⟨rfl, rfl, rfl⟩ rfl rfl (Nat.lt_of_lt_of_eq (by decide : 48 < 75) rfl) rfl d kk
theorem gM_49 {α : Type} {X : Cx} {G : Gt} {cc : ByteArray} {nL : Nat} {ret : Option FieldType} {lev : Nat} (h : OkX (X, G, wM, nM) cc RX12 nL ret lev) {cv : α → Option Value × Mem} {m : Mem} {pc nx : Nat} {ls : List (Option Value)} {st : List Value} {E : Option α} (d : DD cc pc (.getfield 344) 3 nx) (kk : JR (X, G, wM, nM) cv m nx ls (.int (m.1 0 49) :: st) E) : JR (X, G, wM, nM) cv m pc ls (.ref (G.2.2 0) :: st) E := j_get (q0 := 0) (ci := 12) (fs := fM G m) (k := 49) h inM rfl rfl (by decide) fl12_344 rfl rfl d kk
theorem pM_49 {α : Type} {X : Cx} {G : Gt} {cc : ByteArray} {nL : Nat} {ret : Option FieldType} {lev : Nat} (h : OkX (X, G, wM, nM) cc RX12 nL ret lev) {cv : α → Option Value × Mem} {m : Mem} {pc nx : Nat} {ls : List (Option Value)} {st : List Value} {K : Mem → Option α} {x : Int32} (d : DD cc pc (.putfield 344) 3 nx) (kk : ∀ m1, m1 = sI m 0 49 x → JR (X, G, wM, nM) cv m1 nx ls st (K m1)) : JR (X, G, wM, nM) cv m pc ls (.int x :: .ref (G.2.2 0) :: st) (pt (sI m 0 49 x) K) := j_put (q0 := 0) (ci := 12) (fs := fM G m) (k := 49) (ty0 := tyX12) h inM tyX12_ok nmX12 rfl rfl (by decide) fl12_344 ⟨rfl, rfl, rfl⟩ rfl rfl (Nat.lt_of_lt_of_eq (by decide : 49 < 75) rfl) rfl d kk
theorem gM_50 {α : Type} {X : Cx} {G : Gt} {cc : ByteArray} {nL : Nat} {ret : Option FieldType} {lev : Nat} (h : OkX (X, G, wM, nM) cc RX12 nL ret lev) {cv : α → Option Value × Mem} {m : Mem} {pc nx : Nat} {ls : List (Option Value)} {st : List Value} {E : Option α} (d : DD cc pc (.getfield 369) 3 nx) (kk : JR (X, G, wM, nM) cv m nx ls (.int (m.1 0 50) :: st) E) : JR (X, G, wM, nM) cv m pc ls (.ref (G.2.2 0) :: st) E := j_get (q0 := 0) (ci := 12) (fs := fM G m) (k := 50) h inM rfl rfl (by decide) fl12_369 rfl rfl d kk
theorem pM_50 {α : Type} {X : Cx} {G : Gt} {cc : ByteArray} {nL : Nat} {ret : Option FieldType} {lev : Nat} (h : OkX (X, G, wM, nM) cc RX12 nL ret lev) {cv : α → Option Value × Mem} {m : Mem} {pc nx : Nat} {ls : List (Option Value)} {st : List Value} {K : Mem → Option α} {x : Int32} (d : DD cc pc (.putfield 369) 3 nx) (kk : ∀ m1, m1 = sI m 0 50 x → JR (X, G, wM, nM) cv m1 nx ls st (K m1)) : JR (X, G, wM, nM) cv m pc ls (.int x :: .ref (G.2.2 0) :: st) (pt (sI m 0 50 x) K) := j_put (q0 := 0) (ci := 12) (fs := fM G m) (k := 50) (ty0 := tyX12) h inM tyX12_ok nmX12 rfl rfl (by decide) fl12_369 ⟨rfl, rfl, rfl⟩ rfl rfl (Nat.lt_of_lt_of_eq (by decide : 50 < 75) rfl) rfl d kk
theorem gM_51 {α : Type} {X : Cx} {G : Gt} {cc : ByteArray} {nL : Nat} {ret : Option FieldType} {lev : Nat} (h : OkX (X, G, wM, nM) cc RX12 nL ret lev) {cv : α → Option Value × Mem} {m : Mem} {pc nx : Nat} {ls : List (Option Value)} {st : List Value} {E : Option α} (d : DD cc pc (.getfield 378) 3 nx) (kk : JR (X, G, wM, nM) cv m nx ls (.int (m.1 0 51) :: st) E) : JR (X, G, wM, nM) cv m pc ls (.ref (G.2.2 0) :: st) E := j_get (q0 := 0) (ci := 12) (fs := fM G m) (k := 51) h inM rfl rfl (by decide) fl12_378 rfl rfl d kk
theorem pM_51 {α : Type} {X : Cx} {G : Gt} {cc : ByteArray} {nL : Nat} {ret : Option FieldType} {lev : Nat} (h : OkX (X, G, wM, nM) cc RX12 nL ret lev) {cv : α → Option Value × Mem} {m : Mem} {pc nx : Nat} {ls : List (Option Value)} {st : List Value} {K : Mem → Option α} {x : Int32} (d : DD cc pc (.putfield 378) 3 nx) (kk : ∀ m1, m1 = sI m 0 51 x → JR (X, G, wM, nM) cv m1 nx ls st (K m1)) : JR (X, G, wM, nM) cv m pc ls (.int x :: .ref (G.2.2 0) :: st) (pt (sI m 0 51 x) K) := j_put (q0 := 0) (ci := 12) (fs := fM G m) (k := 51) (ty0 := tyX12) h inM tyX12_ok nmX12 rfl rfl (by decide) fl12_378 ⟨rfl, rfl, rfl⟩ rfl rfl (Nat.lt_of_lt_of_eq (by decide : 51 < 75) rfl) rfl d kk
theorem gM_52 {α : Type} {X : Cx} {G : Gt} {cc : ByteArray} {nL : Nat} {ret : Option FieldType} {lev : Nat} (h : OkX (X, G, wM, nM) cc RX12 nL ret lev) {cv : α → Option Value × Mem} {m : Mem} {pc nx : Nat} {ls : List (Option Value)} {st : List Value} {E : Option α} (d : DD cc pc (.getfield 381) 3 nx) (kk : JR (X, G, wM, nM) cv m nx ls (.int (m.1 0 52) :: st) E) : JR (X, G, wM, nM) cv m pc ls (.ref (G.2.2 0) :: st) E := j_get (q0 := 0) (ci := 12) (fs := fM G m) (k := 52) h inM rfl rfl (by decide) fl12_381 rfl rfl d kk
theorem pM_52 {α : Type} {X : Cx} {G : Gt} {cc : ByteArray} {nL : Nat} {ret : Option FieldType} {lev : Nat} (h : OkX (X, G, wM, nM) cc RX12 nL ret lev) {cv : α → Option Value × Mem} {m : Mem} {pc nx : Nat} {ls : List (Option Value)} {st : List Value} {K : Mem → Option α} {x : Int32} (d : DD cc pc (.putfield 381) 3 nx) (kk : ∀ m1, m1 = sI m 0 52 x → JR (X, G, wM, nM) cv m1 nx ls st (K m1)) : JR (X, G, wM, nM) cv m pc ls (.int x :: .ref (G.2.2 0) :: st) (pt (sI m 0 52 x) K) := j_put (q0 := 0) (ci := 12) (fs := fM G m) (k := 52) (ty0 := tyX12) h inM tyX12_ok nmX12 rfl rfl (by decide) fl12_381 ⟨rfl, rfl, rfl⟩ rfl rfl (Nat.lt_of_lt_of_eq (by decide : 52 < 75) rfl) rfl d kk
theorem gM_53 {α : Type} {X : Cx} {G : Gt} {cc : ByteArray} {nL : Nat} {ret : Option FieldType} {lev : Nat} (h : OkX (X, G, wM, nM) cc RX12 nL ret lev) {cv : α → Option Value × Mem} {m : Mem} {pc nx : Nat} {ls : List (Option Value)} {st : List Value} {E : Option α} (d : DD cc pc (.getfield 384) 3 nx) (kk : JR (X, G, wM, nM) cv m nx ls (.int (m.1 0 53) :: st) E) : JR (X, G, wM, nM) cv m pc ls (.ref (G.2.2 0) :: st) E := j_get (q0 := 0) (ci := 12) (fs := fM G m) (k := 53) h inM rfl rfl (by decide) fl12_384 rfl rfl d kk
theorem pM_53 {α : Type} {X : Cx} {G : Gt} {cc : ByteArray} {nL : Nat} {ret : Option FieldType} {lev : Nat} (h : OkX (X, G, wM, nM) cc RX12 nL ret lev) {cv : α → Option Value × Mem} {m : Mem} {pc nx : Nat} {ls : List (Option Value)} {st : List Value} {K : Mem → Option α} {x : Int32} (d : DD cc pc (.putfield 384) 3 nx) (kk : ∀ m1, m1 = sI m 0 53 x → JR (X, G, wM, nM) cv m1 nx ls st (K m1)) : JR (X, G, wM, nM) cv m pc ls (.int x :: .ref (G.2.2 0) :: st) (pt (sI m 0 53 x) K) := j_put (q0 := 0) (ci := 12) (fs := fM G m) (k := 53) (ty0 := tyX12) h inM tyX12_ok nmX12 rfl rfl (by decide) fl12_384 ⟨rfl, rfl, rfl⟩ rfl rfl (Nat.lt_of_lt_of_eq (by decide : 53 < 75) rfl) rfl d kk
theorem gM_54 {α : Type} {X : Cx} {G : Gt} {cc : ByteArray} {nL : Nat} {ret : Option FieldType} {lev : Nat} (h : OkX (X, G, wM, nM) cc RX12 nL ret lev) {cv : α → Option Value × Mem} {m : Mem} {pc nx : Nat} {ls : List (Option Value)} {st : List Value} {E : Option α} (d : DD cc pc (.getfield 365) 3 nx) (kk : JR (X, G, wM, nM) cv m nx ls (.int (m.1 0 54) :: st) E) : JR (X, G, wM, nM) cv m pc ls (.ref (G.2.2 0) :: st) E := j_get (q0 := 0) (ci := 12) (fs := fM G m) (k := 54) h inM rfl rfl (by decide) fl12_365 rfl rfl d kk
theorem pM_54 {α : Type} {X : Cx} {G : Gt} {cc : ByteArray} {nL : Nat} {ret : Option FieldType} {lev : Nat} (h : OkX (X, G, wM, nM) cc RX12 nL ret lev) {cv : α → Option Value × Mem} {m : Mem} {pc nx : Nat} {ls : List (Option Value)} {st : List Value} {K : Mem → Option α} {x : Int32} (hn : narrow .boolean (.int x) = .int x) (hf : fits .boolean (.int x) = true) (d : DD cc pc (.putfield 365) 3 nx) (kk : ∀ m1, m1 = sI m 0 54 x → JR (X, G, wM, nM) cv m1 nx ls st (K m1)) : JR (X, G, wM, nM) cv m pc ls (.int x :: .ref (G.2.2 0) :: st) (pt (sI m 0 54 x) K) := j_put (q0 := 0) (ci := 12) (fs := fM G m) (k := 54) (ty0 := tyX12) h inM tyX12_ok nmX12 rfl rfl (by decide) fl12_365 ⟨rfl, rfl, rfl⟩ hn hf (Nat.lt_of_lt_of_eq (by decide : 54 < 75) rfl) rfl d kk
theorem gM_55 {α : Type} {X : Cx} {G : Gt} {cc : ByteArray} {nL : Nat} {ret : Option FieldType} {lev : Nat} (h : OkX (X, G, wM, nM) cc RX12 nL ret lev) {cv : α → Option Value × Mem} {m : Mem} {pc nx : Nat} {ls : List (Option Value)} {st : List Value} {E : Option α} (d : DD cc pc (.getfield 112) 3 nx) (kk : JR (X, G, wM, nM) cv m nx ls (.ref (G.2.2 33) :: st) E) : JR (X, G, wM, nM) cv m pc ls (.ref (G.2.2 0) :: st) E := j_get (q0 := 0) (ci := 12) (fs := fM G m) (k := 55) h inM rfl rfl (by decide) fl12_112 rfl rfl d kk
theorem gM_56 {α : Type} {X : Cx} {G : Gt} {cc : ByteArray} {nL : Nat} {ret : Option FieldType} {lev : Nat} (h : OkX (X, G, wM, nM) cc RX12 nL ret lev) {cv : α → Option Value × Mem} {m : Mem} {pc nx : Nat} {ls : List (Option Value)} {st : List Value} {E : Option α} (d : DD cc pc (.getfield 115) 3 nx) (kk : JR (X, G, wM, nM) cv m nx ls (.ref (G.2.2 34) :: st) E) : JR (X, G, wM, nM) cv m pc ls (.ref (G.2.2 0) :: st) E := j_get (q0 := 0) (ci := 12) (fs := fM G m) (k := 56) h inM rfl rfl (by decide) fl12_115 rfl rfl d kk
theorem gM_57 {α : Type} {X : Cx} {G : Gt} {cc : ByteArray} {nL : Nat} {ret : Option FieldType} {lev : Nat} (h : OkX (X, G, wM, nM) cc RX12 nL ret lev) {cv : α → Option Value × Mem} {m : Mem} {pc nx : Nat} {ls : List (Option Value)} {st : List Value} {E : Option α} (d : DD cc pc (.getfield 118) 3 nx) (kk : JR (X, G, wM, nM) cv m nx ls (.ref (G.2.2 35) :: st) E) : JR (X, G, wM, nM) cv m pc ls (.ref (G.2.2 0) :: st) E := j_get (q0 := 0) (ci := 12) (fs := fM G m) (k := 57) h inM rfl rfl (by decide) fl12_118 rfl rfl d kk
theorem gM_58 {α : Type} {X : Cx} {G : Gt} {cc : ByteArray} {nL : Nat} {ret : Option FieldType} {lev : Nat} (h : OkX (X, G, wM, nM) cc RX12 nL ret lev) {cv : α → Option Value × Mem} {m : Mem} {pc nx : Nat} {ls : List (Option Value)} {st : List Value} {E : Option α} (d : DD cc pc (.getfield 121) 3 nx) (kk : JR (X, G, wM, nM) cv m nx ls (.ref (G.2.2 36) :: st) E) : JR (X, G, wM, nM) cv m pc ls (.ref (G.2.2 0) :: st) E := j_get (q0 := 0) (ci := 12) (fs := fM G m) (k := 58) h inM rfl rfl (by decide) fl12_121 rfl rfl d kk
theorem gM_59 {α : Type} {X : Cx} {G : Gt} {cc : ByteArray} {nL : Nat} {ret : Option FieldType} {lev : Nat} (h : OkX (X, G, wM, nM) cc RX12 nL ret lev) {cv : α → Option Value × Mem} {m : Mem} {pc nx : Nat} {ls : List (Option Value)} {st : List Value} {E : Option α} (d : DD cc pc (.getfield 124) 3 nx) (kk : JR (X, G, wM, nM) cv m nx ls (.ref (G.2.2 37) :: st) E) : JR (X, G, wM, nM) cv m pc ls (.ref (G.2.2 0) :: st) E := j_get (q0 := 0) (ci := 12) (fs := fM G m) (k := 59) h inM rfl rfl (by decide) fl12_124 rfl rfl d kk
theorem gM_60 {α : Type} {X : Cx} {G : Gt} {cc : ByteArray} {nL : Nat} {ret : Option FieldType} {lev : Nat} (h : OkX (X, G, wM, nM) cc RX12 nL ret lev) {cv : α → Option Value × Mem} {m : Mem} {pc nx : Nat} {ls : List (Option Value)} {st : List Value} {E : Option α} (d : DD cc pc (.getfield 390) 3 nx) (kk : JR (X, G, wM, nM) cv m nx ls (.int (m.1 0 60) :: st) E) : JR (X, G, wM, nM) cv m pc ls (.ref (G.2.2 0) :: st) E := j_get (q0 := 0) (ci := 12) (fs := fM G m) (k := 60) h inM rfl rfl (by decide) fl12_390 rfl rfl d kk
theorem pM_60 {α : Type} {X : Cx} {G : Gt} {cc : ByteArray} {nL : Nat} {ret : Option FieldType} {lev : Nat} (h : OkX (X, G, wM, nM) cc RX12 nL ret lev) {cv : α → Option Value × Mem} {m : Mem} {pc nx : Nat} {ls : List (Option Value)} {st : List Value} {K : Mem → Option α} {x : Int32} (d : DD cc pc (.putfield 390) 3 nx) (kk : ∀ m1, m1 = sI m 0 60 x → JR (X, G, wM, nM) cv m1 nx ls st (K m1)) : JR (X, G, wM, nM) cv m pc ls (.int x :: .ref (G.2.2 0) :: st) (pt (sI m 0 60 x) K) := j_put (q0 := 0) (ci := 12) (fs := fM G m) (k := 60) (ty0 := tyX12) h inM tyX12_ok nmX12 rfl rfl (by decide) fl12_390 ⟨rfl, rfl, rfl⟩ rfl rfl (Nat.lt_of_lt_of_eq (by decide : 60 < 75) rfl) rfl d kk
theorem gM_61 {α : Type} {X : Cx} {G : Gt} {cc : ByteArray} {nL : Nat} {ret : Option FieldType} {lev : Nat} (h : OkX (X, G, wM, nM) cc RX12 nL ret lev) {cv : α → Option Value × Mem} {m : Mem} {pc nx : Nat} {ls : List (Option Value)} {st : List Value} {E : Option α} (d : DD cc pc (.getfield 393) 3 nx) (kk : JR (X, G, wM, nM) cv m nx ls (.int (m.1 0 61) :: st) E) : JR (X, G, wM, nM) cv m pc ls (.ref (G.2.2 0) :: st) E := j_get (q0 := 0) (ci := 12) (fs := fM G m) (k := 61) h inM rfl rfl (by decide) fl12_393 rfl rfl d kk
theorem pM_61 {α : Type} {X : Cx} {G : Gt} {cc : ByteArray} {nL : Nat} {ret : Option FieldType} {lev : Nat} (h : OkX (X, G, wM, nM) cc RX12 nL ret lev) {cv : α → Option Value × Mem} {m : Mem} {pc nx : Nat} {ls : List (Option Value)} {st : List Value} {K : Mem → Option α} {x : Int32} (d : DD cc pc (.putfield 393) 3 nx) (kk : ∀ m1, m1 = sI m 0 61 x → JR (X, G, wM, nM) cv m1 nx ls st (K m1)) : JR (X, G, wM, nM) cv m pc ls (.int x :: .ref (G.2.2 0) :: st) (pt (sI m 0 61 x) K) := j_put (q0 := 0) (ci := 12) (fs := fM G m) (k := 61) (ty0 := tyX12) h inM tyX12_ok nmX12 rfl rfl (by decide) fl12_393 ⟨rfl, rfl, rfl⟩ rfl rfl (Nat.lt_of_lt_of_eq (by decide : 61 < 75) rfl) rfl d kk
theorem gM_62 {α : Type} {X : Cx} {G : Gt} {cc : ByteArray} {nL : Nat} {ret : Option FieldType} {lev : Nat} (h : OkX (X, G, wM, nM) cc RX12 nL ret lev) {cv : α → Option Value × Mem} {m : Mem} {pc nx : Nat} {ls : List (Option Value)} {st : List Value} {E : Option α} (d : DD cc pc (.getfield 127) 3 nx) (kk : JR (X, G, wM, nM) cv m nx ls (.ref (G.2.2 38) :: st) E) : JR (X, G, wM, nM) cv m pc ls (.ref (G.2.2 0) :: st) E := j_get (q0 := 0) (ci := 12) (fs := fM G m) (k := 62) h inM rfl rfl (by decide) fl12_127 rfl rfl d kk
theorem gM_63 {α : Type} {X : Cx} {G : Gt} {cc : ByteArray} {nL : Nat} {ret : Option FieldType} {lev : Nat} (h : OkX (X, G, wM, nM) cc RX12 nL ret lev) {cv : α → Option Value × Mem} {m : Mem} {pc nx : Nat} {ls : List (Option Value)} {st : List Value} {E : Option α} (d : DD cc pc (.getfield 399) 3 nx) (kk : JR (X, G, wM, nM) cv m nx ls (.int (m.1 0 63) :: st) E) : JR (X, G, wM, nM) cv m pc ls (.ref (G.2.2 0) :: st) E := j_get (q0 := 0) (ci := 12) (fs := fM G m) (k := 63) h inM rfl rfl (by decide) fl12_399 rfl rfl d kk
theorem pM_63 {α : Type} {X : Cx} {G : Gt} {cc : ByteArray} {nL : Nat} {ret : Option FieldType} {lev : Nat} (h : OkX (X, G, wM, nM) cc RX12 nL ret lev) {cv : α → Option Value × Mem} {m : Mem} {pc nx : Nat} {ls : List (Option Value)} {st : List Value} {K : Mem → Option α} {x : Int32} (d : DD cc pc (.putfield 399) 3 nx) (kk : ∀ m1, m1 = sI m 0 63 x → JR (X, G, wM, nM) cv m1 nx ls st (K m1)) : JR (X, G, wM, nM) cv m pc ls (.int x :: .ref (G.2.2 0) :: st) (pt (sI m 0 63 x) K) := j_put (q0 := 0) (ci := 12) (fs := fM G m) (k := 63) (ty0 := tyX12) h inM tyX12_ok nmX12 rfl rfl (by decide) fl12_399 ⟨rfl, rfl, rfl⟩ rfl rfl (Nat.lt_of_lt_of_eq (by decide : 63 < 75) rfl) rfl d kk
theorem gM_64 {α : Type} {X : Cx} {G : Gt} {cc : ByteArray} {nL : Nat} {ret : Option FieldType} {lev : Nat} (h : OkX (X, G, wM, nM) cc RX12 nL ret lev) {cv : α → Option Value × Mem} {m : Mem} {pc nx : Nat} {ls : List (Option Value)} {st : List Value} {E : Option α} (d : DD cc pc (.getfield 130) 3 nx) (kk : JR (X, G, wM, nM) cv m nx ls (.ref (G.2.2 39) :: st) E) : JR (X, G, wM, nM) cv m pc ls (.ref (G.2.2 0) :: st) E := j_get (q0 := 0) (ci := 12) (fs := fM G m) (k := 64) h inM rfl rfl (by decide) fl12_130 rfl rfl d kk
theorem gM_65 {α : Type} {X : Cx} {G : Gt} {cc : ByteArray} {nL : Nat} {ret : Option FieldType} {lev : Nat} (h : OkX (X, G, wM, nM) cc RX12 nL ret lev) {cv : α → Option Value × Mem} {m : Mem} {pc nx : Nat} {ls : List (Option Value)} {st : List Value} {E : Option α} (d : DD cc pc (.getfield 133) 3 nx) (kk : JR (X, G, wM, nM) cv m nx ls (.ref (G.2.2 40) :: st) E) : JR (X, G, wM, nM) cv m pc ls (.ref (G.2.2 0) :: st) E := j_get (q0 := 0) (ci := 12) (fs := fM G m) (k := 65) h inM rfl rfl (by decide) fl12_133 rfl rfl d kk
theorem gM_66 {α : Type} {X : Cx} {G : Gt} {cc : ByteArray} {nL : Nat} {ret : Option FieldType} {lev : Nat} (h : OkX (X, G, wM, nM) cc RX12 nL ret lev) {cv : α → Option Value × Mem} {m : Mem} {pc nx : Nat} {ls : List (Option Value)} {st : List Value} {E : Option α} (d : DD cc pc (.getfield 136) 3 nx) (kk : JR (X, G, wM, nM) cv m nx ls (.ref (G.2.2 41) :: st) E) : JR (X, G, wM, nM) cv m pc ls (.ref (G.2.2 0) :: st) E := j_get (q0 := 0) (ci := 12) (fs := fM G m) (k := 66) h inM rfl rfl (by decide) fl12_136 rfl rfl d kk
theorem gM_67 {α : Type} {X : Cx} {G : Gt} {cc : ByteArray} {nL : Nat} {ret : Option FieldType} {lev : Nat} (h : OkX (X, G, wM, nM) cc RX12 nL ret lev) {cv : α → Option Value × Mem} {m : Mem} {pc nx : Nat} {ls : List (Option Value)} {st : List Value} {E : Option α} (d : DD cc pc (.getfield 139) 3 nx) (kk : JR (X, G, wM, nM) cv m nx ls (.ref (G.2.2 42) :: st) E) : JR (X, G, wM, nM) cv m pc ls (.ref (G.2.2 0) :: st) E := j_get (q0 := 0) (ci := 12) (fs := fM G m) (k := 67) h inM rfl rfl (by decide) fl12_139 rfl rfl d kk
theorem gM_68 {α : Type} {X : Cx} {G : Gt} {cc : ByteArray} {nL : Nat} {ret : Option FieldType} {lev : Nat} (h : OkX (X, G, wM, nM) cc RX12 nL ret lev) {cv : α → Option Value × Mem} {m : Mem} {pc nx : Nat} {ls : List (Option Value)} {st : List Value} {E : Option α} (d : DD cc pc (.getfield 142) 3 nx) (kk : JR (X, G, wM, nM) cv m nx ls (.ref (G.2.2 43) :: st) E) : JR (X, G, wM, nM) cv m pc ls (.ref (G.2.2 0) :: st) E := j_get (q0 := 0) (ci := 12) (fs := fM G m) (k := 68) h inM rfl rfl (by decide) fl12_142 rfl rfl d kk
theorem gM_69 {α : Type} {X : Cx} {G : Gt} {cc : ByteArray} {nL : Nat} {ret : Option FieldType} {lev : Nat} (h : OkX (X, G, wM, nM) cc RX12 nL ret lev) {cv : α → Option Value × Mem} {m : Mem} {pc nx : Nat} {ls : List (Option Value)} {st : List Value} {E : Option α} (d : DD cc pc (.getfield 396) 3 nx) (kk : JR (X, G, wM, nM) cv m nx ls (.int (m.1 0 69) :: st) E) : JR (X, G, wM, nM) cv m pc ls (.ref (G.2.2 0) :: st) E := j_get (q0 := 0) (ci := 12) (fs := fM G m) (k := 69) h inM rfl rfl (by decide) fl12_396 rfl rfl d kk
theorem pM_69 {α : Type} {X : Cx} {G : Gt} {cc : ByteArray} {nL : Nat} {ret : Option FieldType} {lev : Nat} (h : OkX (X, G, wM, nM) cc RX12 nL ret lev) {cv : α → Option Value × Mem} {m : Mem} {pc nx : Nat} {ls : List (Option Value)} {st : List Value} {K : Mem → Option α} {x : Int32} (d : DD cc pc (.putfield 396) 3 nx) (kk : ∀ m1, m1 = sI m 0 69 x → JR (X, G, wM, nM) cv m1 nx ls st (K m1)) : JR (X, G, wM, nM) cv m pc ls (.int x :: .ref (G.2.2 0) :: st) (pt (sI m 0 69 x) K) := j_put (q0 := 0) (ci := 12) (fs := fM G m) (k := 69) (ty0 := tyX12) h inM tyX12_ok nmX12 rfl rfl (by decide) fl12_396 ⟨rfl, rfl, rfl⟩ rfl rfl (Nat.lt_of_lt_of_eq (by decide : 69 < 75) rfl) rfl d kk
theorem gM_70 {α : Type} {X : Cx} {G : Gt} {cc : ByteArray} {nL : Nat} {ret : Option FieldType} {lev : Nat} (h : OkX (X, G, wM, nM) cc RX12 nL ret lev) {cv : α → Option Value × Mem} {m : Mem} {pc nx : Nat} {ls : List (Option Value)} {st : List Value} {E : Option α} (d : DD cc pc (.getfield 521) 3 nx) (kk : JR (X, G, wM, nM) cv m nx ls (.int (m.1 0 70) :: st) E) : JR (X, G, wM, nM) cv m pc ls (.ref (G.2.2 0) :: st) E := j_get (q0 := 0) (ci := 12) (fs := fM G m) (k := 70) h inM rfl rfl (by decide) fl12_521 rfl rfl d kk
theorem pM_70 {α : Type} {X : Cx} {G : Gt} {cc : ByteArray} {nL : Nat} {ret : Option FieldType} {lev : Nat} (h : OkX (X, G, wM, nM) cc RX12 nL ret lev) {cv : α → Option Value × Mem} {m : Mem} {pc nx : Nat} {ls : List (Option Value)} {st : List Value} {K : Mem → Option α} {x : Int32} (d : DD cc pc (.putfield 521) 3 nx) (kk : ∀ m1, m1 = sI m 0 70 x → JR (X, G, wM, nM) cv m1 nx ls st (K m1)) : JR (X, G, wM, nM) cv m pc ls (.int x :: .ref (G.2.2 0) :: st) (pt (sI m 0 70 x) K) := j_put (q0 := 0) (ci := 12) (fs := fM G m) (k := 70) (ty0 := tyX12) h inM tyX12_ok nmX12 rfl rfl (by decide) fl12_521 ⟨rfl, rfl, rfl⟩ rfl rfl (Nat.lt_of_lt_of_eq (by decide : 70 < 75) rfl) rfl d kk
theorem gM_71 {α : Type} {X : Cx} {G : Gt} {cc : ByteArray} {nL : Nat} {ret : Option FieldType} {lev : Nat} (h : OkX (X, G, wM, nM) cc RX12 nL ret lev) {cv : α → Option Value × Mem} {m : Mem} {pc nx : Nat} {ls : List (Option Value)} {st : List Value} {E : Option α} (d : DD cc pc (.getfield 145) 3 nx) (kk : JR (X, G, wM, nM) cv m nx ls (.ref (G.2.2 44) :: st) E) : JR (X, G, wM, nM) cv m pc ls (.ref (G.2.2 0) :: st) E := j_get (q0 := 0) (ci := 12) (fs := fM G m) (k := 71) h inM rfl rfl (by decide) fl12_145 rfl rfl d kk
theorem gM_72 {α : Type} {X : Cx} {G : Gt} {cc : ByteArray} {nL : Nat} {ret : Option FieldType} {lev : Nat} (h : OkX (X, G, wM, nM) cc RX12 nL ret lev) {cv : α → Option Value × Mem} {m : Mem} {pc nx : Nat} {ls : List (Option Value)} {st : List Value} {E : Option α} (d : DD cc pc (.getfield 148) 3 nx) (kk : JR (X, G, wM, nM) cv m nx ls (.ref (G.2.2 45) :: st) E) : JR (X, G, wM, nM) cv m pc ls (.ref (G.2.2 0) :: st) E := j_get (q0 := 0) (ci := 12) (fs := fM G m) (k := 72) h inM rfl rfl (by decide) fl12_148 rfl rfl d kk
theorem gM_73 {α : Type} {X : Cx} {G : Gt} {cc : ByteArray} {nL : Nat} {ret : Option FieldType} {lev : Nat} (h : OkX (X, G, wM, nM) cc RX12 nL ret lev) {cv : α → Option Value × Mem} {m : Mem} {pc nx : Nat} {ls : List (Option Value)} {st : List Value} {E : Option α} (d : DD cc pc (.getfield 151) 3 nx) (kk : JR (X, G, wM, nM) cv m nx ls (.ref (G.2.2 46) :: st) E) : JR (X, G, wM, nM) cv m pc ls (.ref (G.2.2 0) :: st) E := j_get (q0 := 0) (ci := 12) (fs := fM G m) (k := 73) h inM rfl rfl (by decide) fl12_151 rfl rfl d kk
theorem gM_74 {α : Type} {X : Cx} {G : Gt} {cc : ByteArray} {nL : Nat} {ret : Option FieldType} {lev : Nat} (h : OkX (X, G, wM, nM) cc RX12 nL ret lev) {cv : α → Option Value × Mem} {m : Mem} {pc nx : Nat} {ls : List (Option Value)} {st : List Value} {E : Option α} (d : DD cc pc (.getfield 154) 3 nx) (kk : JR (X, G, wM, nM) cv m nx ls (.ref (G.2.2 47) :: st) E) : JR (X, G, wM, nM) cv m pc ls (.ref (G.2.2 0) :: st) E := j_get (q0 := 0) (ci := 12) (fs := fM G m) (k := 74) h inM rfl rfl (by decide) fl12_154 rfl rfl d kk
theorem aM_1 {α : Type} {X : Cx} {G : Gt} {cc : ByteArray} {nL : Nat} {ret : Option FieldType} {lev : Nat} (h : OkX (X, G, wM, nM) cc RX12 nL ret lev) {cv : α → Option Value × Mem} {m : Mem} {pc nx : Nat} {ls : List (Option Value)} {st : List Value} {K : Int32 → Option α} {i : Int32} (d : DD cc pc .iaload 1 nx) (kk : ∀ v, v = m.1 1 i.toNatClampNeg → JR (X, G, wM, nM) cv m nx ls (.int v :: st) (K v)) : JR (X, G, wM, nM) cv m pc ls (.int i :: .ref (G.2.2 1) :: st) (rd (m.1 1) 1600 i K) := j_iald (q0 := 1) h rfl d kk
theorem bM_1 {α : Type} {X : Cx} {G : Gt} {cc : ByteArray} {nL : Nat} {ret : Option FieldType} {lev : Nat} (h : OkX (X, G, wM, nM) cc RX12 nL ret lev) {cv : α → Option Value × Mem} {m : Mem} {pc nx : Nat} {ls : List (Option Value)} {st : List Value} {K : Mem → Option α} {i x : Int32} (d : DD cc pc .iastore 1 nx) (kk : ∀ m1, m1 = sI m 1 i.toNatClampNeg x → JR (X, G, wM, nM) cv m1 nx ls st (K m1)) : JR (X, G, wM, nM) cv m pc ls (.int x :: .int i :: .ref (G.2.2 1) :: st) (wr m 1 1600 i x K) := j_iast (q0 := 1) h rfl (fun _ => rfl) d kk
theorem aM_2 {α : Type} {X : Cx} {G : Gt} {cc : ByteArray} {nL : Nat} {ret : Option FieldType} {lev : Nat} (h : OkX (X, G, wM, nM) cc RX12 nL ret lev) {cv : α → Option Value × Mem} {m : Mem} {pc nx : Nat} {ls : List (Option Value)} {st : List Value} {K : Int64 → Option α} {i : Int32} (d : DD cc pc .laload 1 nx) (kk : ∀ v, v = m.2.1 2 i.toNatClampNeg → JR (X, G, wM, nM) cv m nx ls (.long v :: st) (K v)) : JR (X, G, wM, nM) cv m pc ls (.int i :: .ref (G.2.2 2) :: st) (rdL (m.2.1 2) 7 i K) := j_lald (q0 := 2) h rfl d kk
theorem bM_2 {α : Type} {X : Cx} {G : Gt} {cc : ByteArray} {nL : Nat} {ret : Option FieldType} {lev : Nat} (h : OkX (X, G, wM, nM) cc RX12 nL ret lev) {cv : α → Option Value × Mem} {m : Mem} {pc nx : Nat} {ls : List (Option Value)} {st : List Value} {K : Mem → Option α} {i : Int32} {x : Int64} (d : DD cc pc .lastore 1 nx) (kk : ∀ m1, m1 = sL m 2 i.toNatClampNeg x → JR (X, G, wM, nM) cv m1 nx ls st (K m1)) : JR (X, G, wM, nM) cv m pc ls (.long x :: .int i :: .ref (G.2.2 2) :: st) (wrL m 2 7 i x K) := j_last (q0 := 2) h rfl rfl d kk
theorem aM_3 {α : Type} {X : Cx} {G : Gt} {cc : ByteArray} {nL : Nat} {ret : Option FieldType} {lev : Nat} (h : OkX (X, G, wM, nM) cc RX12 nL ret lev) {cv : α → Option Value × Mem} {m : Mem} {pc nx : Nat} {ls : List (Option Value)} {st : List Value} {K : Int32 → Option α} {i : Int32} (d : DD cc pc .iaload 1 nx) (kk : ∀ v, v = m.1 3 i.toNatClampNeg → JR (X, G, wM, nM) cv m nx ls (.int v :: st) (K v)) : JR (X, G, wM, nM) cv m pc ls (.int i :: .ref (G.2.2 3) :: st) (rd (m.1 3) 960 i K) := j_iald (q0 := 3) h rfl d kk
theorem bM_3 {α : Type} {X : Cx} {G : Gt} {cc : ByteArray} {nL : Nat} {ret : Option FieldType} {lev : Nat} (h : OkX (X, G, wM, nM) cc RX12 nL ret lev) {cv : α → Option Value × Mem} {m : Mem} {pc nx : Nat} {ls : List (Option Value)} {st : List Value} {K : Mem → Option α} {i x : Int32} (d : DD cc pc .iastore 1 nx) (kk : ∀ m1, m1 = sI m 3 i.toNatClampNeg x → JR (X, G, wM, nM) cv m1 nx ls st (K m1)) : JR (X, G, wM, nM) cv m pc ls (.int x :: .int i :: .ref (G.2.2 3) :: st) (wr m 3 960 i x K) := j_iast (q0 := 3) h rfl (fun _ => rfl) d kk
theorem aM_4 {α : Type} {X : Cx} {G : Gt} {cc : ByteArray} {nL : Nat} {ret : Option FieldType} {lev : Nat} (h : OkX (X, G, wM, nM) cc RX12 nL ret lev) {cv : α → Option Value × Mem} {m : Mem} {pc nx : Nat} {ls : List (Option Value)} {st : List Value} {K : Int32 → Option α} {i : Int32} (d : DD cc pc .iaload 1 nx) (kk : ∀ v, v = m.1 4 i.toNatClampNeg → JR (X, G, wM, nM) cv m nx ls (.int v :: st) (K v)) : JR (X, G, wM, nM) cv m pc ls (.int i :: .ref (G.2.2 4) :: st) (rd (m.1 4) 960 i K) := j_iald (q0 := 4) h rfl d kk
theorem bM_4 {α : Type} {X : Cx} {G : Gt} {cc : ByteArray} {nL : Nat} {ret : Option FieldType} {lev : Nat} (h : OkX (X, G, wM, nM) cc RX12 nL ret lev) {cv : α → Option Value × Mem} {m : Mem} {pc nx : Nat} {ls : List (Option Value)} {st : List Value} {K : Mem → Option α} {i x : Int32} (d : DD cc pc .iastore 1 nx) (kk : ∀ m1, m1 = sI m 4 i.toNatClampNeg x → JR (X, G, wM, nM) cv m1 nx ls st (K m1)) : JR (X, G, wM, nM) cv m pc ls (.int x :: .int i :: .ref (G.2.2 4) :: st) (wr m 4 960 i x K) := j_iast (q0 := 4) h rfl (fun _ => rfl) d kk
theorem aM_5 {α : Type} {X : Cx} {G : Gt} {cc : ByteArray} {nL : Nat} {ret : Option FieldType} {lev : Nat} (h : OkX (X, G, wM, nM) cc RX12 nL ret lev) {cv : α → Option Value × Mem} {m : Mem} {pc nx : Nat} {ls : List (Option Value)} {st : List Value} {K : Int32 → Option α} {i : Int32} (d : DD cc pc .iaload 1 nx) (kk : ∀ v, v = m.1 5 i.toNatClampNeg → JR (X, G, wM, nM) cv m nx ls (.int v :: st) (K v)) : JR (X, G, wM, nM) cv m pc ls (.int i :: .ref (G.2.2 5) :: st) (rd (m.1 5) 3 i K) := j_iald (q0 := 5) h rfl d kk
theorem bM_5 {α : Type} {X : Cx} {G : Gt} {cc : ByteArray} {nL : Nat} {ret : Option FieldType} {lev : Nat} (h : OkX (X, G, wM, nM) cc RX12 nL ret lev) {cv : α → Option Value × Mem} {m : Mem} {pc nx : Nat} {ls : List (Option Value)} {st : List Value} {K : Mem → Option α} {i x : Int32} (d : DD cc pc .iastore 1 nx) (kk : ∀ m1, m1 = sI m 5 i.toNatClampNeg x → JR (X, G, wM, nM) cv m1 nx ls st (K m1)) : JR (X, G, wM, nM) cv m pc ls (.int x :: .int i :: .ref (G.2.2 5) :: st) (wr m 5 3 i x K) := j_iast (q0 := 5) h rfl (fun _ => rfl) d kk
theorem aM_6 {α : Type} {X : Cx} {G : Gt} {cc : ByteArray} {nL : Nat} {ret : Option FieldType} {lev : Nat} (h : OkX (X, G, wM, nM) cc RX12 nL ret lev) {cv : α → Option Value × Mem} {m : Mem} {pc nx : Nat} {ls : List (Option Value)} {st : List Value} {K : Int32 → Option α} {i : Int32} (d : DD cc pc .iaload 1 nx) (kk : ∀ v, v = m.1 6 i.toNatClampNeg → JR (X, G, wM, nM) cv m nx ls (.int v :: st) (K v)) : JR (X, G, wM, nM) cv m pc ls (.int i :: .ref (G.2.2 6) :: st) (rd (m.1 6) 960 i K) := j_iald (q0 := 6) h rfl d kk
theorem bM_6 {α : Type} {X : Cx} {G : Gt} {cc : ByteArray} {nL : Nat} {ret : Option FieldType} {lev : Nat} (h : OkX (X, G, wM, nM) cc RX12 nL ret lev) {cv : α → Option Value × Mem} {m : Mem} {pc nx : Nat} {ls : List (Option Value)} {st : List Value} {K : Mem → Option α} {i x : Int32} (d : DD cc pc .iastore 1 nx) (kk : ∀ m1, m1 = sI m 6 i.toNatClampNeg x → JR (X, G, wM, nM) cv m1 nx ls st (K m1)) : JR (X, G, wM, nM) cv m pc ls (.int x :: .int i :: .ref (G.2.2 6) :: st) (wr m 6 960 i x K) := j_iast (q0 := 6) h rfl (fun _ => rfl) d kk
theorem aM_7 {α : Type} {X : Cx} {G : Gt} {cc : ByteArray} {nL : Nat} {ret : Option FieldType} {lev : Nat} (h : OkX (X, G, wM, nM) cc RX12 nL ret lev) {cv : α → Option Value × Mem} {m : Mem} {pc nx : Nat} {ls : List (Option Value)} {st : List Value} {K : Int32 → Option α} {i : Int32} (d : DD cc pc .iaload 1 nx) (kk : ∀ v, v = m.1 7 i.toNatClampNeg → JR (X, G, wM, nM) cv m nx ls (.int v :: st) (K v)) : JR (X, G, wM, nM) cv m pc ls (.int i :: .ref (G.2.2 7) :: st) (rd (m.1 7) 960 i K) := j_iald (q0 := 7) h rfl d kk
theorem bM_7 {α : Type} {X : Cx} {G : Gt} {cc : ByteArray} {nL : Nat} {ret : Option FieldType} {lev : Nat} (h : OkX (X, G, wM, nM) cc RX12 nL ret lev) {cv : α → Option Value × Mem} {m : Mem} {pc nx : Nat} {ls : List (Option Value)} {st : List Value} {K : Mem → Option α} {i x : Int32} (d : DD cc pc .iastore 1 nx) (kk : ∀ m1, m1 = sI m 7 i.toNatClampNeg x → JR (X, G, wM, nM) cv m1 nx ls st (K m1)) : JR (X, G, wM, nM) cv m pc ls (.int x :: .int i :: .ref (G.2.2 7) :: st) (wr m 7 960 i x K) := j_iast (q0 := 7) h rfl (fun _ => rfl) d kk
theorem aM_8 {α : Type} {X : Cx} {G : Gt} {cc : ByteArray} {nL : Nat} {ret : Option FieldType} {lev : Nat} (h : OkX (X, G, wM, nM) cc RX12 nL ret lev) {cv : α → Option Value × Mem} {m : Mem} {pc nx : Nat} {ls : List (Option Value)} {st : List Value} {K : Int32 → Option α} {i : Int32} (d : DD cc pc .iaload 1 nx) (kk : ∀ v, v = m.1 8 i.toNatClampNeg → JR (X, G, wM, nM) cv m nx ls (.int v :: st) (K v)) : JR (X, G, wM, nM) cv m pc ls (.int i :: .ref (G.2.2 8) :: st) (rd (m.1 8) 3 i K) := j_iald (q0 := 8) h rfl d kk
theorem bM_8 {α : Type} {X : Cx} {G : Gt} {cc : ByteArray} {nL : Nat} {ret : Option FieldType} {lev : Nat} (h : OkX (X, G, wM, nM) cc RX12 nL ret lev) {cv : α → Option Value × Mem} {m : Mem} {pc nx : Nat} {ls : List (Option Value)} {st : List Value} {K : Mem → Option α} {i x : Int32} (d : DD cc pc .iastore 1 nx) (kk : ∀ m1, m1 = sI m 8 i.toNatClampNeg x → JR (X, G, wM, nM) cv m1 nx ls st (K m1)) : JR (X, G, wM, nM) cv m pc ls (.int x :: .int i :: .ref (G.2.2 8) :: st) (wr m 8 3 i x K) := j_iast (q0 := 8) h rfl (fun _ => rfl) d kk
theorem aM_9 {α : Type} {X : Cx} {G : Gt} {cc : ByteArray} {nL : Nat} {ret : Option FieldType} {lev : Nat} (h : OkX (X, G, wM, nM) cc RX12 nL ret lev) {cv : α → Option Value × Mem} {m : Mem} {pc nx : Nat} {ls : List (Option Value)} {st : List Value} {K : Int32 → Option α} {i : Int32} (d : DD cc pc .iaload 1 nx) (kk : ∀ v, v = m.1 9 i.toNatClampNeg → JR (X, G, wM, nM) cv m nx ls (.int v :: st) (K v)) : JR (X, G, wM, nM) cv m pc ls (.int i :: .ref (G.2.2 9) :: st) (rd (m.1 9) 160 i K) := j_iald (q0 := 9) h rfl d kk
theorem bM_9 {α : Type} {X : Cx} {G : Gt} {cc : ByteArray} {nL : Nat} {ret : Option FieldType} {lev : Nat} (h : OkX (X, G, wM, nM) cc RX12 nL ret lev) {cv : α → Option Value × Mem} {m : Mem} {pc nx : Nat} {ls : List (Option Value)} {st : List Value} {K : Mem → Option α} {i x : Int32} (d : DD cc pc .iastore 1 nx) (kk : ∀ m1, m1 = sI m 9 i.toNatClampNeg x → JR (X, G, wM, nM) cv m1 nx ls st (K m1)) : JR (X, G, wM, nM) cv m pc ls (.int x :: .int i :: .ref (G.2.2 9) :: st) (wr m 9 160 i x K) := j_iast (q0 := 9) h rfl (fun _ => rfl) d kk
theorem aM_10 {α : Type} {X : Cx} {G : Gt} {cc : ByteArray} {nL : Nat} {ret : Option FieldType} {lev : Nat} (h : OkX (X, G, wM, nM) cc RX12 nL ret lev) {cv : α → Option Value × Mem} {m : Mem} {pc nx : Nat} {ls : List (Option Value)} {st : List Value} {K : Int32 → Option α} {i : Int32} (d : DD cc pc .iaload 1 nx) (kk : ∀ v, v = m.1 10 i.toNatClampNeg → JR (X, G, wM, nM) cv m nx ls (.int v :: st) (K v)) : JR (X, G, wM, nM) cv m pc ls (.int i :: .ref (G.2.2 10) :: st) (rd (m.1 10) 64 i K) := j_iald (q0 := 10) h rfl d kk
theorem bM_10 {α : Type} {X : Cx} {G : Gt} {cc : ByteArray} {nL : Nat} {ret : Option FieldType} {lev : Nat} (h : OkX (X, G, wM, nM) cc RX12 nL ret lev) {cv : α → Option Value × Mem} {m : Mem} {pc nx : Nat} {ls : List (Option Value)} {st : List Value} {K : Mem → Option α} {i x : Int32} (d : DD cc pc .iastore 1 nx) (kk : ∀ m1, m1 = sI m 10 i.toNatClampNeg x → JR (X, G, wM, nM) cv m1 nx ls st (K m1)) : JR (X, G, wM, nM) cv m pc ls (.int x :: .int i :: .ref (G.2.2 10) :: st) (wr m 10 64 i x K) := j_iast (q0 := 10) h rfl (fun _ => rfl) d kk
theorem aM_11 {α : Type} {X : Cx} {G : Gt} {cc : ByteArray} {nL : Nat} {ret : Option FieldType} {lev : Nat} (h : OkX (X, G, wM, nM) cc RX12 nL ret lev) {cv : α → Option Value × Mem} {m : Mem} {pc nx : Nat} {ls : List (Option Value)} {st : List Value} {K : Int32 → Option α} {i : Int32} (d : DD cc pc .baload 1 nx) (kk : ∀ v, v = m.1 11 i.toNatClampNeg → JR (X, G, wM, nM) cv m nx ls (.int v :: st) (K v)) : JR (X, G, wM, nM) cv m pc ls (.int i :: .ref (G.2.2 11) :: st) (rd (m.1 11) 3 i K) := j_zald (q0 := 11) h rfl d kk
theorem bM_11 {α : Type} {X : Cx} {G : Gt} {cc : ByteArray} {nL : Nat} {ret : Option FieldType} {lev : Nat} (h : OkX (X, G, wM, nM) cc RX12 nL ret lev) {cv : α → Option Value × Mem} {m : Mem} {pc nx : Nat} {ls : List (Option Value)} {st : List Value} {K : Mem → Option α} {i x : Int32} (d : DD cc pc .bastore 1 nx) (kk : ∀ m1, m1 = sI m 11 i.toNatClampNeg (vp_nar .boolean x) → JR (X, G, wM, nM) cv m1 nx ls st (K m1)) : JR (X, G, wM, nM) cv m pc ls (.int x :: .int i :: .ref (G.2.2 11) :: st) (wr m 11 3 i (vp_nar .boolean x) K) := j_zast (q0 := 11) h rfl (fun _ => rfl) d kk
theorem aM_12 {α : Type} {X : Cx} {G : Gt} {cc : ByteArray} {nL : Nat} {ret : Option FieldType} {lev : Nat} (h : OkX (X, G, wM, nM) cc RX12 nL ret lev) {cv : α → Option Value × Mem} {m : Mem} {pc nx : Nat} {ls : List (Option Value)} {st : List Value} {K : Int32 → Option α} {i : Int32} (d : DD cc pc .baload 1 nx) (kk : ∀ v, v = m.1 12 i.toNatClampNeg → JR (X, G, wM, nM) cv m nx ls (.int v :: st) (K v)) : JR (X, G, wM, nM) cv m pc ls (.int i :: .ref (G.2.2 12) :: st) (rd (m.1 12) 3 i K) := j_zald (q0 := 12) h rfl d kk
theorem bM_12 {α : Type} {X : Cx} {G : Gt} {cc : ByteArray} {nL : Nat} {ret : Option FieldType} {lev : Nat} (h : OkX (X, G, wM, nM) cc RX12 nL ret lev) {cv : α → Option Value × Mem} {m : Mem} {pc nx : Nat} {ls : List (Option Value)} {st : List Value} {K : Mem → Option α} {i x : Int32} (d : DD cc pc .bastore 1 nx) (kk : ∀ m1, m1 = sI m 12 i.toNatClampNeg (vp_nar .boolean x) → JR (X, G, wM, nM) cv m1 nx ls st (K m1)) : JR (X, G, wM, nM) cv m pc ls (.int x :: .int i :: .ref (G.2.2 12) :: st) (wr m 12 3 i (vp_nar .boolean x) K) := j_zast (q0 := 12) h rfl (fun _ => rfl) d kk
theorem aM_13 {α : Type} {X : Cx} {G : Gt} {cc : ByteArray} {nL : Nat} {ret : Option FieldType} {lev : Nat} (h : OkX (X, G, wM, nM) cc RX12 nL ret lev) {cv : α → Option Value × Mem} {m : Mem} {pc nx : Nat} {ls : List (Option Value)} {st : List Value} {K : Int32 → Option α} {i : Int32} (d : DD cc pc .iaload 1 nx) (kk : ∀ v, v = m.1 13 i.toNatClampNeg → JR (X, G, wM, nM) cv m nx ls (.int v :: st) (K v)) : JR (X, G, wM, nM) cv m pc ls (.int i :: .ref (G.2.2 13) :: st) (rd (m.1 13) 4 i K) := j_iald (q0 := 13) h rfl d kk
theorem bM_13 {α : Type} {X : Cx} {G : Gt} {cc : ByteArray} {nL : Nat} {ret : Option FieldType} {lev : Nat} (h : OkX (X, G, wM, nM) cc RX12 nL ret lev) {cv : α → Option Value × Mem} {m : Mem} {pc nx : Nat} {ls : List (Option Value)} {st : List Value} {K : Mem → Option α} {i x : Int32} (d : DD cc pc .iastore 1 nx) (kk : ∀ m1, m1 = sI m 13 i.toNatClampNeg x → JR (X, G, wM, nM) cv m1 nx ls st (K m1)) : JR (X, G, wM, nM) cv m pc ls (.int x :: .int i :: .ref (G.2.2 13) :: st) (wr m 13 4 i x K) := j_iast (q0 := 13) h rfl (fun _ => rfl) d kk
theorem aM_14 {α : Type} {X : Cx} {G : Gt} {cc : ByteArray} {nL : Nat} {ret : Option FieldType} {lev : Nat} (h : OkX (X, G, wM, nM) cc RX12 nL ret lev) {cv : α → Option Value × Mem} {m : Mem} {pc nx : Nat} {ls : List (Option Value)} {st : List Value} {K : Int32 → Option α} {i : Int32} (d : DD cc pc .iaload 1 nx) (kk : ∀ v, v = m.1 14 i.toNatClampNeg → JR (X, G, wM, nM) cv m nx ls (.int v :: st) (K v)) : JR (X, G, wM, nM) cv m pc ls (.int i :: .ref (G.2.2 14) :: st) (rd (m.1 14) 7 i K) := j_iald (q0 := 14) h rfl d kk
theorem bM_14 {α : Type} {X : Cx} {G : Gt} {cc : ByteArray} {nL : Nat} {ret : Option FieldType} {lev : Nat} (h : OkX (X, G, wM, nM) cc RX12 nL ret lev) {cv : α → Option Value × Mem} {m : Mem} {pc nx : Nat} {ls : List (Option Value)} {st : List Value} {K : Mem → Option α} {i x : Int32} (d : DD cc pc .iastore 1 nx) (kk : ∀ m1, m1 = sI m 14 i.toNatClampNeg x → JR (X, G, wM, nM) cv m1 nx ls st (K m1)) : JR (X, G, wM, nM) cv m pc ls (.int x :: .int i :: .ref (G.2.2 14) :: st) (wr m 14 7 i x K) := j_iast (q0 := 14) h rfl (fun _ => rfl) d kk
theorem aM_15 {α : Type} {X : Cx} {G : Gt} {cc : ByteArray} {nL : Nat} {ret : Option FieldType} {lev : Nat} (h : OkX (X, G, wM, nM) cc RX12 nL ret lev) {cv : α → Option Value × Mem} {m : Mem} {pc nx : Nat} {ls : List (Option Value)} {st : List Value} {K : Int32 → Option α} {i : Int32} (d : DD cc pc .iaload 1 nx) (kk : ∀ v, v = m.1 15 i.toNatClampNeg → JR (X, G, wM, nM) cv m nx ls (.int v :: st) (K v)) : JR (X, G, wM, nM) cv m pc ls (.int i :: .ref (G.2.2 15) :: st) (rd (m.1 15) 7 i K) := j_iald (q0 := 15) h rfl d kk
theorem bM_15 {α : Type} {X : Cx} {G : Gt} {cc : ByteArray} {nL : Nat} {ret : Option FieldType} {lev : Nat} (h : OkX (X, G, wM, nM) cc RX12 nL ret lev) {cv : α → Option Value × Mem} {m : Mem} {pc nx : Nat} {ls : List (Option Value)} {st : List Value} {K : Mem → Option α} {i x : Int32} (d : DD cc pc .iastore 1 nx) (kk : ∀ m1, m1 = sI m 15 i.toNatClampNeg x → JR (X, G, wM, nM) cv m1 nx ls st (K m1)) : JR (X, G, wM, nM) cv m pc ls (.int x :: .int i :: .ref (G.2.2 15) :: st) (wr m 15 7 i x K) := j_iast (q0 := 15) h rfl (fun _ => rfl) d kk
theorem aM_16 {α : Type} {X : Cx} {G : Gt} {cc : ByteArray} {nL : Nat} {ret : Option FieldType} {lev : Nat} (h : OkX (X, G, wM, nM) cc RX12 nL ret lev) {cv : α → Option Value × Mem} {m : Mem} {pc nx : Nat} {ls : List (Option Value)} {st : List Value} {K : Int32 → Option α} {i : Int32} (d : DD cc pc .iaload 1 nx) (kk : ∀ v, v = m.1 16 i.toNatClampNeg → JR (X, G, wM, nM) cv m nx ls (.int v :: st) (K v)) : JR (X, G, wM, nM) cv m pc ls (.int i :: .ref (G.2.2 16) :: st) (rd (m.1 16) 7 i K) := j_iald (q0 := 16) h rfl d kk
theorem bM_16 {α : Type} {X : Cx} {G : Gt} {cc : ByteArray} {nL : Nat} {ret : Option FieldType} {lev : Nat} (h : OkX (X, G, wM, nM) cc RX12 nL ret lev) {cv : α → Option Value × Mem} {m : Mem} {pc nx : Nat} {ls : List (Option Value)} {st : List Value} {K : Mem → Option α} {i x : Int32} (d : DD cc pc .iastore 1 nx) (kk : ∀ m1, m1 = sI m 16 i.toNatClampNeg x → JR (X, G, wM, nM) cv m1 nx ls st (K m1)) : JR (X, G, wM, nM) cv m pc ls (.int x :: .int i :: .ref (G.2.2 16) :: st) (wr m 16 7 i x K) := j_iast (q0 := 16) h rfl (fun _ => rfl) d kk
theorem aM_17 {α : Type} {X : Cx} {G : Gt} {cc : ByteArray} {nL : Nat} {ret : Option FieldType} {lev : Nat} (h : OkX (X, G, wM, nM) cc RX12 nL ret lev) {cv : α → Option Value × Mem} {m : Mem} {pc nx : Nat} {ls : List (Option Value)} {st : List Value} {K : Int32 → Option α} {i : Int32} (d : DD cc pc .iaload 1 nx) (kk : ∀ v, v = m.1 17 i.toNatClampNeg → JR (X, G, wM, nM) cv m nx ls (.int v :: st) (K v)) : JR (X, G, wM, nM) cv m pc ls (.int i :: .ref (G.2.2 17) :: st) (rd (m.1 17) 7 i K) := j_iald (q0 := 17) h rfl d kk
theorem bM_17 {α : Type} {X : Cx} {G : Gt} {cc : ByteArray} {nL : Nat} {ret : Option FieldType} {lev : Nat} (h : OkX (X, G, wM, nM) cc RX12 nL ret lev) {cv : α → Option Value × Mem} {m : Mem} {pc nx : Nat} {ls : List (Option Value)} {st : List Value} {K : Mem → Option α} {i x : Int32} (d : DD cc pc .iastore 1 nx) (kk : ∀ m1, m1 = sI m 17 i.toNatClampNeg x → JR (X, G, wM, nM) cv m1 nx ls st (K m1)) : JR (X, G, wM, nM) cv m pc ls (.int x :: .int i :: .ref (G.2.2 17) :: st) (wr m 17 7 i x K) := j_iast (q0 := 17) h rfl (fun _ => rfl) d kk
theorem aM_18 {α : Type} {X : Cx} {G : Gt} {cc : ByteArray} {nL : Nat} {ret : Option FieldType} {lev : Nat} (h : OkX (X, G, wM, nM) cc RX12 nL ret lev) {cv : α → Option Value × Mem} {m : Mem} {pc nx : Nat} {ls : List (Option Value)} {st : List Value} {K : Int32 → Option α} {i : Int32} (d : DD cc pc .iaload 1 nx) (kk : ∀ v, v = m.1 18 i.toNatClampNeg → JR (X, G, wM, nM) cv m nx ls (.int v :: st) (K v)) : JR (X, G, wM, nM) cv m pc ls (.int i :: .ref (G.2.2 18) :: st) (rd (m.1 18) 7 i K) := j_iald (q0 := 18) h rfl d kk
theorem bM_18 {α : Type} {X : Cx} {G : Gt} {cc : ByteArray} {nL : Nat} {ret : Option FieldType} {lev : Nat} (h : OkX (X, G, wM, nM) cc RX12 nL ret lev) {cv : α → Option Value × Mem} {m : Mem} {pc nx : Nat} {ls : List (Option Value)} {st : List Value} {K : Mem → Option α} {i x : Int32} (d : DD cc pc .iastore 1 nx) (kk : ∀ m1, m1 = sI m 18 i.toNatClampNeg x → JR (X, G, wM, nM) cv m1 nx ls st (K m1)) : JR (X, G, wM, nM) cv m pc ls (.int x :: .int i :: .ref (G.2.2 18) :: st) (wr m 18 7 i x K) := j_iast (q0 := 18) h rfl (fun _ => rfl) d kk
theorem aM_19 {α : Type} {X : Cx} {G : Gt} {cc : ByteArray} {nL : Nat} {ret : Option FieldType} {lev : Nat} (h : OkX (X, G, wM, nM) cc RX12 nL ret lev) {cv : α → Option Value × Mem} {m : Mem} {pc nx : Nat} {ls : List (Option Value)} {st : List Value} {K : Int32 → Option α} {i : Int32} (d : DD cc pc .iaload 1 nx) (kk : ∀ v, v = m.1 19 i.toNatClampNeg → JR (X, G, wM, nM) cv m nx ls (.int v :: st) (K v)) : JR (X, G, wM, nM) cv m pc ls (.int i :: .ref (G.2.2 19) :: st) (rd (m.1 19) 10 i K) := j_iald (q0 := 19) h rfl d kk
theorem bM_19 {α : Type} {X : Cx} {G : Gt} {cc : ByteArray} {nL : Nat} {ret : Option FieldType} {lev : Nat} (h : OkX (X, G, wM, nM) cc RX12 nL ret lev) {cv : α → Option Value × Mem} {m : Mem} {pc nx : Nat} {ls : List (Option Value)} {st : List Value} {K : Mem → Option α} {i x : Int32} (d : DD cc pc .iastore 1 nx) (kk : ∀ m1, m1 = sI m 19 i.toNatClampNeg x → JR (X, G, wM, nM) cv m1 nx ls st (K m1)) : JR (X, G, wM, nM) cv m pc ls (.int x :: .int i :: .ref (G.2.2 19) :: st) (wr m 19 10 i x K) := j_iast (q0 := 19) h rfl (fun _ => rfl) d kk
theorem aM_20 {α : Type} {X : Cx} {G : Gt} {cc : ByteArray} {nL : Nat} {ret : Option FieldType} {lev : Nat} (h : OkX (X, G, wM, nM) cc RX12 nL ret lev) {cv : α → Option Value × Mem} {m : Mem} {pc nx : Nat} {ls : List (Option Value)} {st : List Value} {K : Int32 → Option α} {i : Int32} (d : DD cc pc .iaload 1 nx) (kk : ∀ v, v = m.1 20 i.toNatClampNeg → JR (X, G, wM, nM) cv m nx ls (.int v :: st) (K v)) : JR (X, G, wM, nM) cv m pc ls (.int i :: .ref (G.2.2 20) :: st) (rd (m.1 20) 10 i K) := j_iald (q0 := 20) h rfl d kk
theorem bM_20 {α : Type} {X : Cx} {G : Gt} {cc : ByteArray} {nL : Nat} {ret : Option FieldType} {lev : Nat} (h : OkX (X, G, wM, nM) cc RX12 nL ret lev) {cv : α → Option Value × Mem} {m : Mem} {pc nx : Nat} {ls : List (Option Value)} {st : List Value} {K : Mem → Option α} {i x : Int32} (d : DD cc pc .iastore 1 nx) (kk : ∀ m1, m1 = sI m 20 i.toNatClampNeg x → JR (X, G, wM, nM) cv m1 nx ls st (K m1)) : JR (X, G, wM, nM) cv m pc ls (.int x :: .int i :: .ref (G.2.2 20) :: st) (wr m 20 10 i x K) := j_iast (q0 := 20) h rfl (fun _ => rfl) d kk
theorem aM_21 {α : Type} {X : Cx} {G : Gt} {cc : ByteArray} {nL : Nat} {ret : Option FieldType} {lev : Nat} (h : OkX (X, G, wM, nM) cc RX12 nL ret lev) {cv : α → Option Value × Mem} {m : Mem} {pc nx : Nat} {ls : List (Option Value)} {st : List Value} {K : Int32 → Option α} {i : Int32} (d : DD cc pc .iaload 1 nx) (kk : ∀ v, v = m.1 21 i.toNatClampNeg → JR (X, G, wM, nM) cv m nx ls (.int v :: st) (K v)) : JR (X, G, wM, nM) cv m pc ls (.int i :: .ref (G.2.2 21) :: st) (rd (m.1 21) 10 i K) := j_iald (q0 := 21) h rfl d kk
theorem bM_21 {α : Type} {X : Cx} {G : Gt} {cc : ByteArray} {nL : Nat} {ret : Option FieldType} {lev : Nat} (h : OkX (X, G, wM, nM) cc RX12 nL ret lev) {cv : α → Option Value × Mem} {m : Mem} {pc nx : Nat} {ls : List (Option Value)} {st : List Value} {K : Mem → Option α} {i x : Int32} (d : DD cc pc .iastore 1 nx) (kk : ∀ m1, m1 = sI m 21 i.toNatClampNeg x → JR (X, G, wM, nM) cv m1 nx ls st (K m1)) : JR (X, G, wM, nM) cv m pc ls (.int x :: .int i :: .ref (G.2.2 21) :: st) (wr m 21 10 i x K) := j_iast (q0 := 21) h rfl (fun _ => rfl) d kk
theorem aM_22 {α : Type} {X : Cx} {G : Gt} {cc : ByteArray} {nL : Nat} {ret : Option FieldType} {lev : Nat} (h : OkX (X, G, wM, nM) cc RX12 nL ret lev) {cv : α → Option Value × Mem} {m : Mem} {pc nx : Nat} {ls : List (Option Value)} {st : List Value} {K : Int32 → Option α} {i : Int32} (d : DD cc pc .iaload 1 nx) (kk : ∀ v, v = m.1 22 i.toNatClampNeg → JR (X, G, wM, nM) cv m nx ls (.int v :: st) (K v)) : JR (X, G, wM, nM) cv m pc ls (.int i :: .ref (G.2.2 22) :: st) (rd (m.1 22) 10 i K) := j_iald (q0 := 22) h rfl d kk
theorem bM_22 {α : Type} {X : Cx} {G : Gt} {cc : ByteArray} {nL : Nat} {ret : Option FieldType} {lev : Nat} (h : OkX (X, G, wM, nM) cc RX12 nL ret lev) {cv : α → Option Value × Mem} {m : Mem} {pc nx : Nat} {ls : List (Option Value)} {st : List Value} {K : Mem → Option α} {i x : Int32} (d : DD cc pc .iastore 1 nx) (kk : ∀ m1, m1 = sI m 22 i.toNatClampNeg x → JR (X, G, wM, nM) cv m1 nx ls st (K m1)) : JR (X, G, wM, nM) cv m pc ls (.int x :: .int i :: .ref (G.2.2 22) :: st) (wr m 22 10 i x K) := j_iast (q0 := 22) h rfl (fun _ => rfl) d kk
theorem aM_23 {α : Type} {X : Cx} {G : Gt} {cc : ByteArray} {nL : Nat} {ret : Option FieldType} {lev : Nat} (h : OkX (X, G, wM, nM) cc RX12 nL ret lev) {cv : α → Option Value × Mem} {m : Mem} {pc nx : Nat} {ls : List (Option Value)} {st : List Value} {K : Int32 → Option α} {i : Int32} (d : DD cc pc .iaload 1 nx) (kk : ∀ v, v = m.1 23 i.toNatClampNeg → JR (X, G, wM, nM) cv m nx ls (.int v :: st) (K v)) : JR (X, G, wM, nM) cv m pc ls (.int i :: .ref (G.2.2 23) :: st) (rd (m.1 23) 10 i K) := j_iald (q0 := 23) h rfl d kk
theorem bM_23 {α : Type} {X : Cx} {G : Gt} {cc : ByteArray} {nL : Nat} {ret : Option FieldType} {lev : Nat} (h : OkX (X, G, wM, nM) cc RX12 nL ret lev) {cv : α → Option Value × Mem} {m : Mem} {pc nx : Nat} {ls : List (Option Value)} {st : List Value} {K : Mem → Option α} {i x : Int32} (d : DD cc pc .iastore 1 nx) (kk : ∀ m1, m1 = sI m 23 i.toNatClampNeg x → JR (X, G, wM, nM) cv m1 nx ls st (K m1)) : JR (X, G, wM, nM) cv m pc ls (.int x :: .int i :: .ref (G.2.2 23) :: st) (wr m 23 10 i x K) := j_iast (q0 := 23) h rfl (fun _ => rfl) d kk
theorem aM_24 {α : Type} {X : Cx} {G : Gt} {cc : ByteArray} {nL : Nat} {ret : Option FieldType} {lev : Nat} (h : OkX (X, G, wM, nM) cc RX12 nL ret lev) {cv : α → Option Value × Mem} {m : Mem} {pc nx : Nat} {ls : List (Option Value)} {st : List Value} {K : Int32 → Option α} {i : Int32} (d : DD cc pc .iaload 1 nx) (kk : ∀ v, v = m.1 24 i.toNatClampNeg → JR (X, G, wM, nM) cv m nx ls (.int v :: st) (K v)) : JR (X, G, wM, nM) cv m pc ls (.int i :: .ref (G.2.2 24) :: st) (rd (m.1 24) 10 i K) := j_iald (q0 := 24) h rfl d kk
theorem bM_24 {α : Type} {X : Cx} {G : Gt} {cc : ByteArray} {nL : Nat} {ret : Option FieldType} {lev : Nat} (h : OkX (X, G, wM, nM) cc RX12 nL ret lev) {cv : α → Option Value × Mem} {m : Mem} {pc nx : Nat} {ls : List (Option Value)} {st : List Value} {K : Mem → Option α} {i x : Int32} (d : DD cc pc .iastore 1 nx) (kk : ∀ m1, m1 = sI m 24 i.toNatClampNeg x → JR (X, G, wM, nM) cv m1 nx ls st (K m1)) : JR (X, G, wM, nM) cv m pc ls (.int x :: .int i :: .ref (G.2.2 24) :: st) (wr m 24 10 i x K) := j_iast (q0 := 24) h rfl (fun _ => rfl) d kk
theorem aM_25 {α : Type} {X : Cx} {G : Gt} {cc : ByteArray} {nL : Nat} {ret : Option FieldType} {lev : Nat} (h : OkX (X, G, wM, nM) cc RX12 nL ret lev) {cv : α → Option Value × Mem} {m : Mem} {pc nx : Nat} {ls : List (Option Value)} {st : List Value} {K : Int32 → Option α} {i : Int32} (d : DD cc pc .iaload 1 nx) (kk : ∀ v, v = m.1 25 i.toNatClampNeg → JR (X, G, wM, nM) cv m nx ls (.int v :: st) (K v)) : JR (X, G, wM, nM) cv m pc ls (.int i :: .ref (G.2.2 25) :: st) (rd (m.1 25) 10 i K) := j_iald (q0 := 25) h rfl d kk
theorem bM_25 {α : Type} {X : Cx} {G : Gt} {cc : ByteArray} {nL : Nat} {ret : Option FieldType} {lev : Nat} (h : OkX (X, G, wM, nM) cc RX12 nL ret lev) {cv : α → Option Value × Mem} {m : Mem} {pc nx : Nat} {ls : List (Option Value)} {st : List Value} {K : Mem → Option α} {i x : Int32} (d : DD cc pc .iastore 1 nx) (kk : ∀ m1, m1 = sI m 25 i.toNatClampNeg x → JR (X, G, wM, nM) cv m1 nx ls st (K m1)) : JR (X, G, wM, nM) cv m pc ls (.int x :: .int i :: .ref (G.2.2 25) :: st) (wr m 25 10 i x K) := j_iast (q0 := 25) h rfl (fun _ => rfl) d kk
theorem aM_26 {α : Type} {X : Cx} {G : Gt} {cc : ByteArray} {nL : Nat} {ret : Option FieldType} {lev : Nat} (h : OkX (X, G, wM, nM) cc RX12 nL ret lev) {cv : α → Option Value × Mem} {m : Mem} {pc nx : Nat} {ls : List (Option Value)} {st : List Value} {K : Int32 → Option α} {i : Int32} (d : DD cc pc .iaload 1 nx) (kk : ∀ v, v = m.1 26 i.toNatClampNeg → JR (X, G, wM, nM) cv m nx ls (.int v :: st) (K v)) : JR (X, G, wM, nM) cv m pc ls (.int i :: .ref (G.2.2 26) :: st) (rd (m.1 26) 10 i K) := j_iald (q0 := 26) h rfl d kk
theorem bM_26 {α : Type} {X : Cx} {G : Gt} {cc : ByteArray} {nL : Nat} {ret : Option FieldType} {lev : Nat} (h : OkX (X, G, wM, nM) cc RX12 nL ret lev) {cv : α → Option Value × Mem} {m : Mem} {pc nx : Nat} {ls : List (Option Value)} {st : List Value} {K : Mem → Option α} {i x : Int32} (d : DD cc pc .iastore 1 nx) (kk : ∀ m1, m1 = sI m 26 i.toNatClampNeg x → JR (X, G, wM, nM) cv m1 nx ls st (K m1)) : JR (X, G, wM, nM) cv m pc ls (.int x :: .int i :: .ref (G.2.2 26) :: st) (wr m 26 10 i x K) := j_iast (q0 := 26) h rfl (fun _ => rfl) d kk
theorem aM_27 {α : Type} {X : Cx} {G : Gt} {cc : ByteArray} {nL : Nat} {ret : Option FieldType} {lev : Nat} (h : OkX (X, G, wM, nM) cc RX12 nL ret lev) {cv : α → Option Value × Mem} {m : Mem} {pc nx : Nat} {ls : List (Option Value)} {st : List Value} {K : Int32 → Option α} {i : Int32} (d : DD cc pc .iaload 1 nx) (kk : ∀ v, v = m.1 27 i.toNatClampNeg → JR (X, G, wM, nM) cv m nx ls (.int v :: st) (K v)) : JR (X, G, wM, nM) cv m pc ls (.int i :: .ref (G.2.2 27) :: st) (rd (m.1 27) 8 i K) := j_iald (q0 := 27) h rfl d kk
theorem bM_27 {α : Type} {X : Cx} {G : Gt} {cc : ByteArray} {nL : Nat} {ret : Option FieldType} {lev : Nat} (h : OkX (X, G, wM, nM) cc RX12 nL ret lev) {cv : α → Option Value × Mem} {m : Mem} {pc nx : Nat} {ls : List (Option Value)} {st : List Value} {K : Mem → Option α} {i x : Int32} (d : DD cc pc .iastore 1 nx) (kk : ∀ m1, m1 = sI m 27 i.toNatClampNeg x → JR (X, G, wM, nM) cv m1 nx ls st (K m1)) : JR (X, G, wM, nM) cv m pc ls (.int x :: .int i :: .ref (G.2.2 27) :: st) (wr m 27 8 i x K) := j_iast (q0 := 27) h rfl (fun _ => rfl) d kk
theorem aM_28 {α : Type} {X : Cx} {G : Gt} {cc : ByteArray} {nL : Nat} {ret : Option FieldType} {lev : Nat} (h : OkX (X, G, wM, nM) cc RX12 nL ret lev) {cv : α → Option Value × Mem} {m : Mem} {pc nx : Nat} {ls : List (Option Value)} {st : List Value} {K : Int32 → Option α} {i : Int32} (d : DD cc pc .iaload 1 nx) (kk : ∀ v, v = m.1 28 i.toNatClampNeg → JR (X, G, wM, nM) cv m nx ls (.int v :: st) (K v)) : JR (X, G, wM, nM) cv m pc ls (.int i :: .ref (G.2.2 28) :: st) (rd (m.1 28) 8 i K) := j_iald (q0 := 28) h rfl d kk
theorem bM_28 {α : Type} {X : Cx} {G : Gt} {cc : ByteArray} {nL : Nat} {ret : Option FieldType} {lev : Nat} (h : OkX (X, G, wM, nM) cc RX12 nL ret lev) {cv : α → Option Value × Mem} {m : Mem} {pc nx : Nat} {ls : List (Option Value)} {st : List Value} {K : Mem → Option α} {i x : Int32} (d : DD cc pc .iastore 1 nx) (kk : ∀ m1, m1 = sI m 28 i.toNatClampNeg x → JR (X, G, wM, nM) cv m1 nx ls st (K m1)) : JR (X, G, wM, nM) cv m pc ls (.int x :: .int i :: .ref (G.2.2 28) :: st) (wr m 28 8 i x K) := j_iast (q0 := 28) h rfl (fun _ => rfl) d kk
theorem aM_29 {α : Type} {X : Cx} {G : Gt} {cc : ByteArray} {nL : Nat} {ret : Option FieldType} {lev : Nat} (h : OkX (X, G, wM, nM) cc RX12 nL ret lev) {cv : α → Option Value × Mem} {m : Mem} {pc nx : Nat} {ls : List (Option Value)} {st : List Value} {K : Int32 → Option α} {i : Int32} (d : DD cc pc .iaload 1 nx) (kk : ∀ v, v = m.1 29 i.toNatClampNeg → JR (X, G, wM, nM) cv m nx ls (.int v :: st) (K v)) : JR (X, G, wM, nM) cv m pc ls (.int i :: .ref (G.2.2 29) :: st) (rd (m.1 29) 8 i K) := j_iald (q0 := 29) h rfl d kk
theorem bM_29 {α : Type} {X : Cx} {G : Gt} {cc : ByteArray} {nL : Nat} {ret : Option FieldType} {lev : Nat} (h : OkX (X, G, wM, nM) cc RX12 nL ret lev) {cv : α → Option Value × Mem} {m : Mem} {pc nx : Nat} {ls : List (Option Value)} {st : List Value} {K : Mem → Option α} {i x : Int32} (d : DD cc pc .iastore 1 nx) (kk : ∀ m1, m1 = sI m 29 i.toNatClampNeg x → JR (X, G, wM, nM) cv m1 nx ls st (K m1)) : JR (X, G, wM, nM) cv m pc ls (.int x :: .int i :: .ref (G.2.2 29) :: st) (wr m 29 8 i x K) := j_iast (q0 := 29) h rfl (fun _ => rfl) d kk
theorem aM_30 {α : Type} {X : Cx} {G : Gt} {cc : ByteArray} {nL : Nat} {ret : Option FieldType} {lev : Nat} (h : OkX (X, G, wM, nM) cc RX12 nL ret lev) {cv : α → Option Value × Mem} {m : Mem} {pc nx : Nat} {ls : List (Option Value)} {st : List Value} {K : Int32 → Option α} {i : Int32} (d : DD cc pc .iaload 1 nx) (kk : ∀ v, v = m.1 30 i.toNatClampNeg → JR (X, G, wM, nM) cv m nx ls (.int v :: st) (K v)) : JR (X, G, wM, nM) cv m pc ls (.int i :: .ref (G.2.2 30) :: st) (rd (m.1 30) 8 i K) := j_iald (q0 := 30) h rfl d kk
theorem bM_30 {α : Type} {X : Cx} {G : Gt} {cc : ByteArray} {nL : Nat} {ret : Option FieldType} {lev : Nat} (h : OkX (X, G, wM, nM) cc RX12 nL ret lev) {cv : α → Option Value × Mem} {m : Mem} {pc nx : Nat} {ls : List (Option Value)} {st : List Value} {K : Mem → Option α} {i x : Int32} (d : DD cc pc .iastore 1 nx) (kk : ∀ m1, m1 = sI m 30 i.toNatClampNeg x → JR (X, G, wM, nM) cv m1 nx ls st (K m1)) : JR (X, G, wM, nM) cv m pc ls (.int x :: .int i :: .ref (G.2.2 30) :: st) (wr m 30 8 i x K) := j_iast (q0 := 30) h rfl (fun _ => rfl) d kk
theorem aM_31 {α : Type} {X : Cx} {G : Gt} {cc : ByteArray} {nL : Nat} {ret : Option FieldType} {lev : Nat} (h : OkX (X, G, wM, nM) cc RX12 nL ret lev) {cv : α → Option Value × Mem} {m : Mem} {pc nx : Nat} {ls : List (Option Value)} {st : List Value} {K : Int32 → Option α} {i : Int32} (d : DD cc pc .iaload 1 nx) (kk : ∀ v, v = m.1 31 i.toNatClampNeg → JR (X, G, wM, nM) cv m nx ls (.int v :: st) (K v)) : JR (X, G, wM, nM) cv m pc ls (.int i :: .ref (G.2.2 31) :: st) (rd (m.1 31) 8 i K) := j_iald (q0 := 31) h rfl d kk
theorem bM_31 {α : Type} {X : Cx} {G : Gt} {cc : ByteArray} {nL : Nat} {ret : Option FieldType} {lev : Nat} (h : OkX (X, G, wM, nM) cc RX12 nL ret lev) {cv : α → Option Value × Mem} {m : Mem} {pc nx : Nat} {ls : List (Option Value)} {st : List Value} {K : Mem → Option α} {i x : Int32} (d : DD cc pc .iastore 1 nx) (kk : ∀ m1, m1 = sI m 31 i.toNatClampNeg x → JR (X, G, wM, nM) cv m1 nx ls st (K m1)) : JR (X, G, wM, nM) cv m pc ls (.int x :: .int i :: .ref (G.2.2 31) :: st) (wr m 31 8 i x K) := j_iast (q0 := 31) h rfl (fun _ => rfl) d kk
theorem aM_32 {α : Type} {X : Cx} {G : Gt} {cc : ByteArray} {nL : Nat} {ret : Option FieldType} {lev : Nat} (h : OkX (X, G, wM, nM) cc RX12 nL ret lev) {cv : α → Option Value × Mem} {m : Mem} {pc nx : Nat} {ls : List (Option Value)} {st : List Value} {K : Int32 → Option α} {i : Int32} (d : DD cc pc .iaload 1 nx) (kk : ∀ v, v = m.1 32 i.toNatClampNeg → JR (X, G, wM, nM) cv m nx ls (.int v :: st) (K v)) : JR (X, G, wM, nM) cv m pc ls (.int i :: .ref (G.2.2 32) :: st) (rd (m.1 32) 8 i K) := j_iald (q0 := 32) h rfl d kk
theorem bM_32 {α : Type} {X : Cx} {G : Gt} {cc : ByteArray} {nL : Nat} {ret : Option FieldType} {lev : Nat} (h : OkX (X, G, wM, nM) cc RX12 nL ret lev) {cv : α → Option Value × Mem} {m : Mem} {pc nx : Nat} {ls : List (Option Value)} {st : List Value} {K : Mem → Option α} {i x : Int32} (d : DD cc pc .iastore 1 nx) (kk : ∀ m1, m1 = sI m 32 i.toNatClampNeg x → JR (X, G, wM, nM) cv m1 nx ls st (K m1)) : JR (X, G, wM, nM) cv m pc ls (.int x :: .int i :: .ref (G.2.2 32) :: st) (wr m 32 8 i x K) := j_iast (q0 := 32) h rfl (fun _ => rfl) d kk
theorem aM_33 {α : Type} {X : Cx} {G : Gt} {cc : ByteArray} {nL : Nat} {ret : Option FieldType} {lev : Nat} (h : OkX (X, G, wM, nM) cc RX12 nL ret lev) {cv : α → Option Value × Mem} {m : Mem} {pc nx : Nat} {ls : List (Option Value)} {st : List Value} {K : Int32 → Option α} {i : Int32} (d : DD cc pc .iaload 1 nx) (kk : ∀ v, v = m.1 33 i.toNatClampNeg → JR (X, G, wM, nM) cv m nx ls (.int v :: st) (K v)) : JR (X, G, wM, nM) cv m pc ls (.int i :: .ref (G.2.2 33) :: st) (rd (m.1 33) 37 i K) := j_iald (q0 := 33) h rfl d kk
theorem bM_33 {α : Type} {X : Cx} {G : Gt} {cc : ByteArray} {nL : Nat} {ret : Option FieldType} {lev : Nat} (h : OkX (X, G, wM, nM) cc RX12 nL ret lev) {cv : α → Option Value × Mem} {m : Mem} {pc nx : Nat} {ls : List (Option Value)} {st : List Value} {K : Mem → Option α} {i x : Int32} (d : DD cc pc .iastore 1 nx) (kk : ∀ m1, m1 = sI m 33 i.toNatClampNeg x → JR (X, G, wM, nM) cv m1 nx ls st (K m1)) : JR (X, G, wM, nM) cv m pc ls (.int x :: .int i :: .ref (G.2.2 33) :: st) (wr m 33 37 i x K) := j_iast (q0 := 33) h rfl (fun _ => rfl) d kk
theorem aM_34 {α : Type} {X : Cx} {G : Gt} {cc : ByteArray} {nL : Nat} {ret : Option FieldType} {lev : Nat} (h : OkX (X, G, wM, nM) cc RX12 nL ret lev) {cv : α → Option Value × Mem} {m : Mem} {pc nx : Nat} {ls : List (Option Value)} {st : List Value} {K : Int32 → Option α} {i : Int32} (d : DD cc pc .iaload 1 nx) (kk : ∀ v, v = m.1 34 i.toNatClampNeg → JR (X, G, wM, nM) cv m nx ls (.int v :: st) (K v)) : JR (X, G, wM, nM) cv m pc ls (.int i :: .ref (G.2.2 34) :: st) (rd (m.1 34) 37 i K) := j_iald (q0 := 34) h rfl d kk
theorem bM_34 {α : Type} {X : Cx} {G : Gt} {cc : ByteArray} {nL : Nat} {ret : Option FieldType} {lev : Nat} (h : OkX (X, G, wM, nM) cc RX12 nL ret lev) {cv : α → Option Value × Mem} {m : Mem} {pc nx : Nat} {ls : List (Option Value)} {st : List Value} {K : Mem → Option α} {i x : Int32} (d : DD cc pc .iastore 1 nx) (kk : ∀ m1, m1 = sI m 34 i.toNatClampNeg x → JR (X, G, wM, nM) cv m1 nx ls st (K m1)) : JR (X, G, wM, nM) cv m pc ls (.int x :: .int i :: .ref (G.2.2 34) :: st) (wr m 34 37 i x K) := j_iast (q0 := 34) h rfl (fun _ => rfl) d kk
theorem aM_35 {α : Type} {X : Cx} {G : Gt} {cc : ByteArray} {nL : Nat} {ret : Option FieldType} {lev : Nat} (h : OkX (X, G, wM, nM) cc RX12 nL ret lev) {cv : α → Option Value × Mem} {m : Mem} {pc nx : Nat} {ls : List (Option Value)} {st : List Value} {K : Int32 → Option α} {i : Int32} (d : DD cc pc .iaload 1 nx) (kk : ∀ v, v = m.1 35 i.toNatClampNeg → JR (X, G, wM, nM) cv m nx ls (.int v :: st) (K v)) : JR (X, G, wM, nM) cv m pc ls (.int i :: .ref (G.2.2 35) :: st) (rd (m.1 35) 3 i K) := j_iald (q0 := 35) h rfl d kk
theorem bM_35 {α : Type} {X : Cx} {G : Gt} {cc : ByteArray} {nL : Nat} {ret : Option FieldType} {lev : Nat} (h : OkX (X, G, wM, nM) cc RX12 nL ret lev) {cv : α → Option Value × Mem} {m : Mem} {pc nx : Nat} {ls : List (Option Value)} {st : List Value} {K : Mem → Option α} {i x : Int32} (d : DD cc pc .iastore 1 nx) (kk : ∀ m1, m1 = sI m 35 i.toNatClampNeg x → JR (X, G, wM, nM) cv m1 nx ls st (K m1)) : JR (X, G, wM, nM) cv m pc ls (.int x :: .int i :: .ref (G.2.2 35) :: st) (wr m 35 3 i x K) := j_iast (q0 := 35) h rfl (fun _ => rfl) d kk
theorem aM_36 {α : Type} {X : Cx} {G : Gt} {cc : ByteArray} {nL : Nat} {ret : Option FieldType} {lev : Nat} (h : OkX (X, G, wM, nM) cc RX12 nL ret lev) {cv : α → Option Value × Mem} {m : Mem} {pc nx : Nat} {ls : List (Option Value)} {st : List Value} {K : Int32 → Option α} {i : Int32} (d : DD cc pc .iaload 1 nx) (kk : ∀ v, v = m.1 36 i.toNatClampNeg → JR (X, G, wM, nM) cv m nx ls (.int v :: st) (K v)) : JR (X, G, wM, nM) cv m pc ls (.int i :: .ref (G.2.2 36) :: st) (rd (m.1 36) 56 i K) := j_iald (q0 := 36) h rfl d kk
theorem bM_36 {α : Type} {X : Cx} {G : Gt} {cc : ByteArray} {nL : Nat} {ret : Option FieldType} {lev : Nat} (h : OkX (X, G, wM, nM) cc RX12 nL ret lev) {cv : α → Option Value × Mem} {m : Mem} {pc nx : Nat} {ls : List (Option Value)} {st : List Value} {K : Mem → Option α} {i x : Int32} (d : DD cc pc .iastore 1 nx) (kk : ∀ m1, m1 = sI m 36 i.toNatClampNeg x → JR (X, G, wM, nM) cv m1 nx ls st (K m1)) : JR (X, G, wM, nM) cv m pc ls (.int x :: .int i :: .ref (G.2.2 36) :: st) (wr m 36 56 i x K) := j_iast (q0 := 36) h rfl (fun _ => rfl) d kk
theorem aM_37 {α : Type} {X : Cx} {G : Gt} {cc : ByteArray} {nL : Nat} {ret : Option FieldType} {lev : Nat} (h : OkX (X, G, wM, nM) cc RX12 nL ret lev) {cv : α → Option Value × Mem} {m : Mem} {pc nx : Nat} {ls : List (Option Value)} {st : List Value} {K : Int32 → Option α} {i : Int32} (d : DD cc pc .iaload 1 nx) (kk : ∀ v, v = m.1 37 i.toNatClampNeg → JR (X, G, wM, nM) cv m nx ls (.int v :: st) (K v)) : JR (X, G, wM, nM) cv m pc ls (.int i :: .ref (G.2.2 37) :: st) (rd (m.1 37) 1480 i K) := j_iald (q0 := 37) h rfl d kk
theorem bM_37 {α : Type} {X : Cx} {G : Gt} {cc : ByteArray} {nL : Nat} {ret : Option FieldType} {lev : Nat} (h : OkX (X, G, wM, nM) cc RX12 nL ret lev) {cv : α → Option Value × Mem} {m : Mem} {pc nx : Nat} {ls : List (Option Value)} {st : List Value} {K : Mem → Option α} {i x : Int32} (d : DD cc pc .iastore 1 nx) (kk : ∀ m1, m1 = sI m 37 i.toNatClampNeg x → JR (X, G, wM, nM) cv m1 nx ls st (K m1)) : JR (X, G, wM, nM) cv m pc ls (.int x :: .int i :: .ref (G.2.2 37) :: st) (wr m 37 1480 i x K) := j_iast (q0 := 37) h rfl (fun _ => rfl) d kk
theorem aM_38 {α : Type} {X : Cx} {G : Gt} {cc : ByteArray} {nL : Nat} {ret : Option FieldType} {lev : Nat} (h : OkX (X, G, wM, nM) cc RX12 nL ret lev) {cv : α → Option Value × Mem} {m : Mem} {pc nx : Nat} {ls : List (Option Value)} {st : List Value} {K : Int32 → Option α} {i : Int32} (d : DD cc pc .iaload 1 nx) (kk : ∀ v, v = m.1 38 i.toNatClampNeg → JR (X, G, wM, nM) cv m nx ls (.int v :: st) (K v)) : JR (X, G, wM, nM) cv m pc ls (.int i :: .ref (G.2.2 38) :: st) (rd (m.1 38) 7 i K) := j_iald (q0 := 38) h rfl d kk
theorem bM_38 {α : Type} {X : Cx} {G : Gt} {cc : ByteArray} {nL : Nat} {ret : Option FieldType} {lev : Nat} (h : OkX (X, G, wM, nM) cc RX12 nL ret lev) {cv : α → Option Value × Mem} {m : Mem} {pc nx : Nat} {ls : List (Option Value)} {st : List Value} {K : Mem → Option α} {i x : Int32} (d : DD cc pc .iastore 1 nx) (kk : ∀ m1, m1 = sI m 38 i.toNatClampNeg x → JR (X, G, wM, nM) cv m1 nx ls st (K m1)) : JR (X, G, wM, nM) cv m pc ls (.int x :: .int i :: .ref (G.2.2 38) :: st) (wr m 38 7 i x K) := j_iast (q0 := 38) h rfl (fun _ => rfl) d kk
theorem aM_39 {α : Type} {X : Cx} {G : Gt} {cc : ByteArray} {nL : Nat} {ret : Option FieldType} {lev : Nat} (h : OkX (X, G, wM, nM) cc RX12 nL ret lev) {cv : α → Option Value × Mem} {m : Mem} {pc nx : Nat} {ls : List (Option Value)} {st : List Value} {K : Int32 → Option α} {i : Int32} (d : DD cc pc .iaload 1 nx) (kk : ∀ v, v = m.1 39 i.toNatClampNeg → JR (X, G, wM, nM) cv m nx ls (.int v :: st) (K v)) : JR (X, G, wM, nM) cv m pc ls (.int i :: .ref (G.2.2 39) :: st) (rd (m.1 39) 30 i K) := j_iald (q0 := 39) h rfl d kk
theorem bM_39 {α : Type} {X : Cx} {G : Gt} {cc : ByteArray} {nL : Nat} {ret : Option FieldType} {lev : Nat} (h : OkX (X, G, wM, nM) cc RX12 nL ret lev) {cv : α → Option Value × Mem} {m : Mem} {pc nx : Nat} {ls : List (Option Value)} {st : List Value} {K : Mem → Option α} {i x : Int32} (d : DD cc pc .iastore 1 nx) (kk : ∀ m1, m1 = sI m 39 i.toNatClampNeg x → JR (X, G, wM, nM) cv m1 nx ls st (K m1)) : JR (X, G, wM, nM) cv m pc ls (.int x :: .int i :: .ref (G.2.2 39) :: st) (wr m 39 30 i x K) := j_iast (q0 := 39) h rfl (fun _ => rfl) d kk
theorem aM_40 {α : Type} {X : Cx} {G : Gt} {cc : ByteArray} {nL : Nat} {ret : Option FieldType} {lev : Nat} (h : OkX (X, G, wM, nM) cc RX12 nL ret lev) {cv : α → Option Value × Mem} {m : Mem} {pc nx : Nat} {ls : List (Option Value)} {st : List Value} {K : Int32 → Option α} {i : Int32} (d : DD cc pc .iaload 1 nx) (kk : ∀ v, v = m.1 40 i.toNatClampNeg → JR (X, G, wM, nM) cv m nx ls (.int v :: st) (K v)) : JR (X, G, wM, nM) cv m pc ls (.int i :: .ref (G.2.2 40) :: st) (rd (m.1 40) 30 i K) := j_iald (q0 := 40) h rfl d kk
theorem bM_40 {α : Type} {X : Cx} {G : Gt} {cc : ByteArray} {nL : Nat} {ret : Option FieldType} {lev : Nat} (h : OkX (X, G, wM, nM) cc RX12 nL ret lev) {cv : α → Option Value × Mem} {m : Mem} {pc nx : Nat} {ls : List (Option Value)} {st : List Value} {K : Mem → Option α} {i x : Int32} (d : DD cc pc .iastore 1 nx) (kk : ∀ m1, m1 = sI m 40 i.toNatClampNeg x → JR (X, G, wM, nM) cv m1 nx ls st (K m1)) : JR (X, G, wM, nM) cv m pc ls (.int x :: .int i :: .ref (G.2.2 40) :: st) (wr m 40 30 i x K) := j_iast (q0 := 40) h rfl (fun _ => rfl) d kk
theorem aM_41 {α : Type} {X : Cx} {G : Gt} {cc : ByteArray} {nL : Nat} {ret : Option FieldType} {lev : Nat} (h : OkX (X, G, wM, nM) cc RX12 nL ret lev) {cv : α → Option Value × Mem} {m : Mem} {pc nx : Nat} {ls : List (Option Value)} {st : List Value} {K : Int32 → Option α} {i : Int32} (d : DD cc pc .iaload 1 nx) (kk : ∀ v, v = m.1 41 i.toNatClampNeg → JR (X, G, wM, nM) cv m nx ls (.int v :: st) (K v)) : JR (X, G, wM, nM) cv m pc ls (.int i :: .ref (G.2.2 41) :: st) (rd (m.1 41) 30 i K) := j_iald (q0 := 41) h rfl d kk
theorem bM_41 {α : Type} {X : Cx} {G : Gt} {cc : ByteArray} {nL : Nat} {ret : Option FieldType} {lev : Nat} (h : OkX (X, G, wM, nM) cc RX12 nL ret lev) {cv : α → Option Value × Mem} {m : Mem} {pc nx : Nat} {ls : List (Option Value)} {st : List Value} {K : Mem → Option α} {i x : Int32} (d : DD cc pc .iastore 1 nx) (kk : ∀ m1, m1 = sI m 41 i.toNatClampNeg x → JR (X, G, wM, nM) cv m1 nx ls st (K m1)) : JR (X, G, wM, nM) cv m pc ls (.int x :: .int i :: .ref (G.2.2 41) :: st) (wr m 41 30 i x K) := j_iast (q0 := 41) h rfl (fun _ => rfl) d kk
theorem aM_42 {α : Type} {X : Cx} {G : Gt} {cc : ByteArray} {nL : Nat} {ret : Option FieldType} {lev : Nat} (h : OkX (X, G, wM, nM) cc RX12 nL ret lev) {cv : α → Option Value × Mem} {m : Mem} {pc nx : Nat} {ls : List (Option Value)} {st : List Value} {K : Int32 → Option α} {i : Int32} (d : DD cc pc .iaload 1 nx) (kk : ∀ v, v = m.1 42 i.toNatClampNeg → JR (X, G, wM, nM) cv m nx ls (.int v :: st) (K v)) : JR (X, G, wM, nM) cv m pc ls (.int i :: .ref (G.2.2 42) :: st) (rd (m.1 42) 30 i K) := j_iald (q0 := 42) h rfl d kk
theorem bM_42 {α : Type} {X : Cx} {G : Gt} {cc : ByteArray} {nL : Nat} {ret : Option FieldType} {lev : Nat} (h : OkX (X, G, wM, nM) cc RX12 nL ret lev) {cv : α → Option Value × Mem} {m : Mem} {pc nx : Nat} {ls : List (Option Value)} {st : List Value} {K : Mem → Option α} {i x : Int32} (d : DD cc pc .iastore 1 nx) (kk : ∀ m1, m1 = sI m 42 i.toNatClampNeg x → JR (X, G, wM, nM) cv m1 nx ls st (K m1)) : JR (X, G, wM, nM) cv m pc ls (.int x :: .int i :: .ref (G.2.2 42) :: st) (wr m 42 30 i x K) := j_iast (q0 := 42) h rfl (fun _ => rfl) d kk
theorem aM_43 {α : Type} {X : Cx} {G : Gt} {cc : ByteArray} {nL : Nat} {ret : Option FieldType} {lev : Nat} (h : OkX (X, G, wM, nM) cc RX12 nL ret lev) {cv : α → Option Value × Mem} {m : Mem} {pc nx : Nat} {ls : List (Option Value)} {st : List Value} {K : Int32 → Option α} {i : Int32} (d : DD cc pc .baload 1 nx) (kk : ∀ v, v = m.1 43 i.toNatClampNeg → JR (X, G, wM, nM) cv m nx ls (.int v :: st) (K v)) : JR (X, G, wM, nM) cv m pc ls (.int i :: .ref (G.2.2 43) :: st) (rd (m.1 43) 30 i K) := j_zald (q0 := 43) h rfl d kk
theorem bM_43 {α : Type} {X : Cx} {G : Gt} {cc : ByteArray} {nL : Nat} {ret : Option FieldType} {lev : Nat} (h : OkX (X, G, wM, nM) cc RX12 nL ret lev) {cv : α → Option Value × Mem} {m : Mem} {pc nx : Nat} {ls : List (Option Value)} {st : List Value} {K : Mem → Option α} {i x : Int32} (d : DD cc pc .bastore 1 nx) (kk : ∀ m1, m1 = sI m 43 i.toNatClampNeg (vp_nar .boolean x) → JR (X, G, wM, nM) cv m1 nx ls st (K m1)) : JR (X, G, wM, nM) cv m pc ls (.int x :: .int i :: .ref (G.2.2 43) :: st) (wr m 43 30 i (vp_nar .boolean x) K) := j_zast (q0 := 43) h rfl (fun _ => rfl) d kk
theorem aM_44 {α : Type} {X : Cx} {G : Gt} {cc : ByteArray} {nL : Nat} {ret : Option FieldType} {lev : Nat} (h : OkX (X, G, wM, nM) cc RX12 nL ret lev) {cv : α → Option Value × Mem} {m : Mem} {pc nx : Nat} {ls : List (Option Value)} {st : List Value} {K : Int32 → Option α} {i : Int32} (d : DD cc pc .iaload 1 nx) (kk : ∀ v, v = m.1 44 i.toNatClampNeg → JR (X, G, wM, nM) cv m nx ls (.int v :: st) (K v)) : JR (X, G, wM, nM) cv m pc ls (.int i :: .ref (G.2.2 44) :: st) (rd (m.1 44) 7 i K) := j_iald (q0 := 44) h rfl d kk
theorem bM_44 {α : Type} {X : Cx} {G : Gt} {cc : ByteArray} {nL : Nat} {ret : Option FieldType} {lev : Nat} (h : OkX (X, G, wM, nM) cc RX12 nL ret lev) {cv : α → Option Value × Mem} {m : Mem} {pc nx : Nat} {ls : List (Option Value)} {st : List Value} {K : Mem → Option α} {i x : Int32} (d : DD cc pc .iastore 1 nx) (kk : ∀ m1, m1 = sI m 44 i.toNatClampNeg x → JR (X, G, wM, nM) cv m1 nx ls st (K m1)) : JR (X, G, wM, nM) cv m pc ls (.int x :: .int i :: .ref (G.2.2 44) :: st) (wr m 44 7 i x K) := j_iast (q0 := 44) h rfl (fun _ => rfl) d kk
theorem aM_45 {α : Type} {X : Cx} {G : Gt} {cc : ByteArray} {nL : Nat} {ret : Option FieldType} {lev : Nat} (h : OkX (X, G, wM, nM) cc RX12 nL ret lev) {cv : α → Option Value × Mem} {m : Mem} {pc nx : Nat} {ls : List (Option Value)} {st : List Value} {K : Int32 → Option α} {i : Int32} (d : DD cc pc .iaload 1 nx) (kk : ∀ v, v = m.1 45 i.toNatClampNeg → JR (X, G, wM, nM) cv m nx ls (.int v :: st) (K v)) : JR (X, G, wM, nM) cv m pc ls (.int i :: .ref (G.2.2 45) :: st) (rd (m.1 45) 24 i K) := j_iald (q0 := 45) h rfl d kk
theorem bM_45 {α : Type} {X : Cx} {G : Gt} {cc : ByteArray} {nL : Nat} {ret : Option FieldType} {lev : Nat} (h : OkX (X, G, wM, nM) cc RX12 nL ret lev) {cv : α → Option Value × Mem} {m : Mem} {pc nx : Nat} {ls : List (Option Value)} {st : List Value} {K : Mem → Option α} {i x : Int32} (d : DD cc pc .iastore 1 nx) (kk : ∀ m1, m1 = sI m 45 i.toNatClampNeg x → JR (X, G, wM, nM) cv m1 nx ls st (K m1)) : JR (X, G, wM, nM) cv m pc ls (.int x :: .int i :: .ref (G.2.2 45) :: st) (wr m 45 24 i x K) := j_iast (q0 := 45) h rfl (fun _ => rfl) d kk
theorem aM_46 {α : Type} {X : Cx} {G : Gt} {cc : ByteArray} {nL : Nat} {ret : Option FieldType} {lev : Nat} (h : OkX (X, G, wM, nM) cc RX12 nL ret lev) {cv : α → Option Value × Mem} {m : Mem} {pc nx : Nat} {ls : List (Option Value)} {st : List Value} {K : Int32 → Option α} {i : Int32} (d : DD cc pc .baload 1 nx) (kk : ∀ v, v = m.1 46 i.toNatClampNeg → JR (X, G, wM, nM) cv m nx ls (.int v :: st) (K v)) : JR (X, G, wM, nM) cv m pc ls (.int i :: .ref (G.2.2 46) :: st) (rd (m.1 46) 3 i K) := j_zald (q0 := 46) h rfl d kk
theorem bM_46 {α : Type} {X : Cx} {G : Gt} {cc : ByteArray} {nL : Nat} {ret : Option FieldType} {lev : Nat} (h : OkX (X, G, wM, nM) cc RX12 nL ret lev) {cv : α → Option Value × Mem} {m : Mem} {pc nx : Nat} {ls : List (Option Value)} {st : List Value} {K : Mem → Option α} {i x : Int32} (d : DD cc pc .bastore 1 nx) (kk : ∀ m1, m1 = sI m 46 i.toNatClampNeg (vp_nar .boolean x) → JR (X, G, wM, nM) cv m1 nx ls st (K m1)) : JR (X, G, wM, nM) cv m pc ls (.int x :: .int i :: .ref (G.2.2 46) :: st) (wr m 46 3 i (vp_nar .boolean x) K) := j_zast (q0 := 46) h rfl (fun _ => rfl) d kk
theorem aM_47 {α : Type} {X : Cx} {G : Gt} {cc : ByteArray} {nL : Nat} {ret : Option FieldType} {lev : Nat} (h : OkX (X, G, wM, nM) cc RX12 nL ret lev) {cv : α → Option Value × Mem} {m : Mem} {pc nx : Nat} {ls : List (Option Value)} {st : List Value} {K : Int32 → Option α} {i : Int32} (d : DD cc pc .iaload 1 nx) (kk : ∀ v, v = m.1 47 i.toNatClampNeg → JR (X, G, wM, nM) cv m nx ls (.int v :: st) (K v)) : JR (X, G, wM, nM) cv m pc ls (.int i :: .ref (G.2.2 47) :: st) (rd (m.1 47) 111 i K) := j_iald (q0 := 47) h rfl d kk
theorem bM_47 {α : Type} {X : Cx} {G : Gt} {cc : ByteArray} {nL : Nat} {ret : Option FieldType} {lev : Nat} (h : OkX (X, G, wM, nM) cc RX12 nL ret lev) {cv : α → Option Value × Mem} {m : Mem} {pc nx : Nat} {ls : List (Option Value)} {st : List Value} {K : Mem → Option α} {i x : Int32} (d : DD cc pc .iastore 1 nx) (kk : ∀ m1, m1 = sI m 47 i.toNatClampNeg x → JR (X, G, wM, nM) cv m1 nx ls st (K m1)) : JR (X, G, wM, nM) cv m pc ls (.int x :: .int i :: .ref (G.2.2 47) :: st) (wr m 47 111 i x K) := j_iast (q0 := 47) h rfl (fun _ => rfl) d kk
end
section
theorem kbipush_m2 : (Int8.ofInt (-2)).toInt32 = (-2 : Int32) := by decide
theorem kbipush_6 : (Int8.ofInt (6)).toInt32 = (6 : Int32) := by decide
theorem kbipush_7 : (Int8.ofInt (7)).toInt32 = (7 : Int32) := by decide
theorem kbipush_8 : (Int8.ofInt (8)).toInt32 = (8 : Int32) := by decide
theorem kbipush_9 : (Int8.ofInt (9)).toInt32 = (9 : Int32) := by decide
theorem kbipush_10 : (Int8.ofInt (10)).toInt32 = (10 : Int32) := by decide
theorem kbipush_11 : (Int8.ofInt (11)).toInt32 = (11 : Int32) := by decide
theorem kbipush_12 : (Int8.ofInt (12)).toInt32 = (12 : Int32) := by decide
theorem kbipush_14 : (Int8.ofInt (14)).toInt32 = (14 : Int32) := by decide
theorem kbipush_18 : (Int8.ofInt (18)).toInt32 = (18 : Int32) := by decide
theorem kbipush_20 : (Int8.ofInt (20)).toInt32 = (20 : Int32) := by decide
theorem kbipush_21 : (Int8.ofInt (21)).toInt32 = (21 : Int32) := by decide
theorem kbipush_22 : (Int8.ofInt (22)).toInt32 = (22 : Int32) := by decide
theorem kbipush_23 : (Int8.ofInt (23)).toInt32 = (23 : Int32) := by decide
theorem kbipush_24 : (Int8.ofInt (24)).toInt32 = (24 : Int32) := by decide
theorem kbipush_30 : (Int8.ofInt (30)).toInt32 = (30 : Int32) := by decide
theorem kbipush_32 : (Int8.ofInt (32)).toInt32 = (32 : Int32) := by decide
theorem kbipush_34 : (Int8.ofInt (34)).toInt32 = (34 : Int32) := by decide
theorem kbipush_35 : (Int8.ofInt (35)).toInt32 = (35 : Int32) := by decide
theorem kbipush_36 : (Int8.ofInt (36)).toInt32 = (36 : Int32) := by decide
theorem kbipush_37 : (Int8.ofInt (37)).toInt32 = (37 : Int32) := by decide
theorem kbipush_38 : (Int8.ofInt (38)).toInt32 = (38 : Int32) := by decide
theorem kbipush_40 : (Int8.ofInt (40)).toInt32 = (40 : Int32) := by decide
theorem kbipush_41 : (Int8.ofInt (41)).toInt32 = (41 : Int32) := by decide
theorem kbipush_42 : (Int8.ofInt (42)).toInt32 = (42 : Int32) := by decide
theorem kbipush_43 : (Int8.ofInt (43)).toInt32 = (43 : Int32) := by decide
theorem kbipush_45 : (Int8.ofInt (45)).toInt32 = (45 : Int32) := by decide
theorem kbipush_47 : (Int8.ofInt (47)).toInt32 = (47 : Int32) := by decide
theorem kbipush_48 : (Int8.ofInt (48)).toInt32 = (48 : Int32) := by decide
theorem kbipush_57 : (Int8.ofInt (57)).toInt32 = (57 : Int32) := by decide
theorem kbipush_59 : (Int8.ofInt (59)).toInt32 = (59 : Int32) := by decide
theorem kbipush_60 : (Int8.ofInt (60)).toInt32 = (60 : Int32) := by decide
theorem kbipush_61 : (Int8.ofInt (61)).toInt32 = (61 : Int32) := by decide
theorem kbipush_62 : (Int8.ofInt (62)).toInt32 = (62 : Int32) := by decide
theorem kbipush_97 : (Int8.ofInt (97)).toInt32 = (97 : Int32) := by decide
theorem kbipush_99 : (Int8.ofInt (99)).toInt32 = (99 : Int32) := by decide
theorem kbipush_100 : (Int8.ofInt (100)).toInt32 = (100 : Int32) := by decide
theorem kbipush_122 : (Int8.ofInt (122)).toInt32 = (122 : Int32) := by decide
theorem kbipush_124 : (Int8.ofInt (124)).toInt32 = (124 : Int32) := by decide
theorem kiconst_m8 : Int32.ofInt (-8) = (-8 : Int32) := by decide
theorem kiconst_m1 : Int32.ofInt (-1) = (-1 : Int32) := by decide
theorem kiconst_0 : Int32.ofInt (0) = (0 : Int32) := by decide
theorem kiconst_1 : Int32.ofInt (1) = (1 : Int32) := by decide
theorem kiconst_2 : Int32.ofInt (2) = (2 : Int32) := by decide
theorem kiconst_3 : Int32.ofInt (3) = (3 : Int32) := by decide
theorem kiconst_4 : Int32.ofInt (4) = (4 : Int32) := by decide
theorem kiconst_5 : Int32.ofInt (5) = (5 : Int32) := by decide
theorem ksipush_240 : (Int16.ofInt (240)).toInt32 = (240 : Int32) := by decide
theorem ksipush_255 : (Int16.ofInt (255)).toInt32 = (255 : Int32) := by decide
theorem ksipush_320 : (Int16.ofInt (320)).toInt32 = (320 : Int32) := by decide
theorem ksipush_364 : (Int16.ofInt (364)).toInt32 = (364 : Int32) := by decide
theorem ksipush_365 : (Int16.ofInt (365)).toInt32 = (365 : Int32) := by decide
theorem ksipush_1000 : (Int16.ofInt (1000)).toInt32 = (1000 : Int32) := by decide
theorem ksipush_1443 : (Int16.ofInt (1443)).toInt32 = (1443 : Int32) := by decide
theorem ksipush_1600 : (Int16.ofInt (1600)).toInt32 = (1600 : Int32) := by decide
theorem ksipush_10000 : (Int16.ofInt (10000)).toInt32 = (10000 : Int32) := by decide
theorem cn12_486 : Cond.constant RX12 486 (-1000000 : Int32) ∈ WT := wt_mem 1903 (by decide +kernel) rfl
theorem cn12_499 : Cond.constant RX12 499 (16777215 : Int32) ∈ WT := wt_mem 1940 (by decide +kernel) rfl
theorem cn12_524 : Cond.constant RX12 524 (100000 : Int32) ∈ WT := wt_mem 2011 (by decide +kernel) rfl
theorem cl12_200 : Cond.constantLong RX12 200 (123581014175598 : Int64) ∈ WT := wt_mem 1600 (by decide +kernel) rfl
theorem cl12_202 : Cond.constantLong RX12 202 (24948 : Int64) ∈ WT := wt_mem 1617 (by decide +kernel) rfl
theorem cl12_204 : Cond.constantLong RX12 204 (474214787188 : Int64) ∈ WT := wt_mem 1618 (by decide +kernel) rfl
theorem cl12_206 : Cond.constantLong RX12 206 (448445441893 : Int64) ∈ WT := wt_mem 1619 (by decide +kernel) rfl
theorem cl12_208 : Cond.constantLong RX12 208 (1835361652 : Int64) ∈ WT := wt_mem 1620 (by decide +kernel) rfl
theorem cl12_210 : Cond.constantLong RX12 210 (448546566771 : Int64) ∈ WT := wt_mem 1621 (by decide +kernel) rfl
theorem cl12_212 : Cond.constantLong RX12 212 (512970880104 : Int64) ∈ WT := wt_mem 1622 (by decide +kernel) rfl
theorem cl12_214 : Cond.constantLong RX12 214 (474315584357 : Int64) ∈ WT := wt_mem 1623 (by decide +kernel) rfl
theorem cl12_216 : Cond.constantLong RX12 216 (1819243876 : Int64) ∈ WT := wt_mem 1624 (by decide +kernel) rfl
theorem cl12_218 : Cond.constantLong RX12 218 (33602636119176556 : Int64) ∈ WT := wt_mem 1625 (by decide +kernel) rfl
theorem cl12_220 : Cond.constantLong RX12 220 (1684109166 : Int64) ∈ WT := wt_mem 1626 (by decide +kernel) rfl
theorem cl12_222 : Cond.constantLong RX12 222 (1685418859 : Int64) ∈ WT := wt_mem 1627 (by decide +kernel) rfl
theorem cl12_224 : Cond.constantLong RX12 224 (1751216749 : Int64) ∈ WT := wt_mem 1628 (by decide +kernel) rfl
theorem cl12_226 : Cond.constantLong RX12 226 (1684108389 : Int64) ∈ WT := wt_mem 1629 (by decide +kernel) rfl
theorem cl12_228 : Cond.constantLong RX12 228 (1752135026 : Int64) ∈ WT := wt_mem 1630 (by decide +kernel) rfl
theorem cl12_230 : Cond.constantLong RX12 230 (6709618 : Int64) ∈ WT := wt_mem 1631 (by decide +kernel) rfl
theorem cl12_232 : Cond.constantLong RX12 232 (6385252 : Int64) ∈ WT := wt_mem 1632 (by decide +kernel) rfl
theorem cl12_234 : Cond.constantLong RX12 234 (28530 : Int64) ∈ WT := wt_mem 1633 (by decide +kernel) rfl
theorem cl12_236 : Cond.constantLong RX12 236 (7237492 : Int64) ∈ WT := wt_mem 1634 (by decide +kernel) rfl
theorem ml12_160 : Cond.methodLink RX12 160 yX12_four ∈ WT := wt_mem 1563 (by decide +kernel) rfl
theorem ml12_170 : Cond.methodLink RX12 170 yX12_here ∈ WT := wt_mem 1583 (by decide +kernel) rfl
theorem ml12_187 : Cond.methodLink RX12 187 yX12_isLetter ∈ WT := wt_mem 1587 (by decide +kernel) rfl
theorem ml12_191 : Cond.methodLink RX12 191 yX12_isDigit ∈ WT := wt_mem 1590 (by decide +kernel) rfl
theorem ml12_194 : Cond.methodLink RX12 194 yX12_isSign ∈ WT := wt_mem 1593 (by decide +kernel) rfl
theorem ml12_238 : Cond.methodLink RX12 238 yX12_isOwn ∈ WT := wt_mem 1613 (by decide +kernel) rfl
theorem ml12_242 : Cond.methodLink RX12 242 yX12_isWord ∈ WT := wt_mem 1601 (by decide +kernel) rfl
theorem ml12_246 : Cond.methodLink RX12 246 yX12_wrong ∈ WT := wt_mem 1635 (by decide +kernel) rfl
theorem ml12_249 : Cond.methodLink RX12 249 yX12_token ∈ WT := wt_mem 1579 (by decide +kernel) rfl
theorem ml12_252 : Cond.methodLink RX12 252 yX12_want ∈ WT := wt_mem 1647 (by decide +kernel) rfl
theorem ml12_256 : Cond.methodLink RX12 256 yX12_toldNumber ∈ WT := wt_mem 1651 (by decide +kernel) rfl
theorem ml12_263 : Cond.methodLink RX12 263 yX12_isName ∈ WT := wt_mem 1609 (by decide +kernel) rfl
theorem ml12_266 : Cond.methodLink RX12 266 yX12_find ∈ WT := wt_mem 1639 (by decide +kernel) rfl
theorem ml12_276 : Cond.methodLink RX12 276 yX12_tight ∈ WT := wt_mem 1691 (by decide +kernel) rfl
theorem ml12_279 : Cond.methodLink RX12 279 yX12_add ∈ WT := wt_mem 1710 (by decide +kernel) rfl
theorem ml12_292 : Cond.methodLink RX12 292 yX12_mayNot ∈ WT := wt_mem 1687 (by decide +kernel) rfl
theorem ml12_295 : Cond.methodLink RX12 295 yX12_openUp ∈ WT := wt_mem 1694 (by decide +kernel) rfl
theorem ml12_298 : Cond.methodLink RX12 298 yX12_isFull ∈ WT := wt_mem 1698 (by decide +kernel) rfl
theorem ml12_301 : Cond.methodLink RX12 301 yX12_countUnit ∈ WT := wt_mem 1702 (by decide +kernel) rfl
theorem ml12_304 : Cond.methodLink RX12 304 yX12_asked ∈ WT := wt_mem 1706 (by decide +kernel) rfl
theorem ml12_307 : Cond.methodLink RX12 307 yX12_unit ∈ WT := wt_mem 1683 (by decide +kernel) rfl
theorem ml12_310 : Cond.methodLink RX12 310 yX12_sign ∈ WT := wt_mem 1714 (by decide +kernel) rfl
theorem ml12_313 : Cond.methodLink RX12 313 yX12_hasBracket ∈ WT := wt_mem 1718 (by decide +kernel) rfl
theorem ml12_316 : Cond.methodLink RX12 316 yX12_close ∈ WT := wt_mem 1722 (by decide +kernel) rfl
theorem ml12_319 : Cond.methodLink RX12 319 yX12_hasRelation ∈ WT := wt_mem 1726 (by decide +kernel) rfl
theorem ml12_322 : Cond.methodLink RX12 322 yX12_truth ∈ WT := wt_mem 1769 (by decide +kernel) rfl
theorem ml12_326 : Cond.methodLink RX12 326 yX12_done ∈ WT := wt_mem 1772 (by decide +kernel) rfl
theorem ml12_330 : Cond.methodLink RX12 330 yX12_told ∈ WT := wt_mem 1643 (by decide +kernel) rfl
theorem ml12_337 : Cond.methodLink RX12 337 yX12_oldPerson ∈ WT := wt_mem 1659 (by decide +kernel) rfl
theorem ml12_340 : Cond.methodLink RX12 340 yX12_isMeetTold ∈ WT := wt_mem 1663 (by decide +kernel) rfl
theorem ml12_347 : Cond.methodLink RX12 347 yX12_isNoiseTold ∈ WT := wt_mem 1671 (by decide +kernel) rfl
theorem ml12_350 : Cond.methodLink RX12 350 yX12_readPerson ∈ WT := wt_mem 1605 (by decide +kernel) rfl
theorem ml12_353 : Cond.methodLink RX12 353 yX12_readMeet ∈ WT := wt_mem 1655 (by decide +kernel) rfl
theorem ml12_356 : Cond.methodLink RX12 356 yX12_readNoise ∈ WT := wt_mem 1667 (by decide +kernel) rfl
theorem ml12_359 : Cond.methodLink RX12 359 yX12_readWakeful ∈ WT := wt_mem 1675 (by decide +kernel) rfl
theorem ml12_362 : Cond.methodLink RX12 362 yX12_formula ∈ WT := wt_mem 1679 (by decide +kernel) rfl
theorem ml12_372 : Cond.methodLink RX12 372 yX12_readLine ∈ WT := wt_mem 1596 (by decide +kernel) rfl
theorem ml12_375 : Cond.methodLink RX12 375 yX12_readAll ∈ WT := wt_mem 1575 (by decide +kernel) rfl
theorem ml12_402 : Cond.methodLink RX12 402 yX12_isIn ∈ WT := wt_mem 1742 (by decide +kernel) rfl
theorem ml12_406 : Cond.methodLink RX12 406 yX12_askOf ∈ WT := wt_mem 1761 (by decide +kernel) rfl
theorem ml12_410 : Cond.methodLink RX12 410 yX12_worked ∈ WT := wt_mem 1765 (by decide +kernel) rfl
theorem ml12_414 : Cond.methodLink RX12 414 yX12_apart ∈ WT := wt_mem 1782 (by decide +kernel) rfl
theorem ml12_417 : Cond.methodLink RX12 417 yX12_dawnOf ∈ WT := wt_mem 1757 (by decide +kernel) rfl
theorem ml12_420 : Cond.methodLink RX12 420 yX12_duskOf ∈ WT := wt_mem 1775 (by decide +kernel) rfl
theorem ml12_423 : Cond.methodLink RX12 423 yX12_isHinge ∈ WT := wt_mem 1779 (by decide +kernel) rfl
theorem ml12_426 : Cond.methodLink RX12 426 yX12_load ∈ WT := wt_mem 1749 (by decide +kernel) rfl
theorem ml12_429 : Cond.methodLink RX12 429 yX12_layDate ∈ WT := wt_mem 1753 (by decide +kernel) rfl
theorem ml12_432 : Cond.methodLink RX12 432 yX12_isAwake ∈ WT := wt_mem 1785 (by decide +kernel) rfl
theorem ml12_435 : Cond.methodLink RX12 435 yX12_harmBy ∈ WT := wt_mem 1793 (by decide +kernel) rfl
theorem ml12_438 : Cond.methodLink RX12 438 yX12_harmOf ∈ WT := wt_mem 1895 (by decide +kernel) rfl
theorem ml12_441 : Cond.methodLink RX12 441 yX12_members ∈ WT := wt_mem 1813 (by decide +kernel) rfl
theorem ml12_444 : Cond.methodLink RX12 444 yX12_commonOf ∈ WT := wt_mem 1809 (by decide +kernel) rfl
theorem ml12_447 : Cond.methodLink RX12 447 yX12_canMeet ∈ WT := wt_mem 1805 (by decide +kernel) rfl
theorem ml12_450 : Cond.methodLink RX12 450 yX12_isPerson ∈ WT := wt_mem 1738 (by decide +kernel) rfl
theorem ml12_453 : Cond.methodLink RX12 453 yX12_loadDate ∈ WT := wt_mem 1745 (by decide +kernel) rfl
theorem ml12_456 : Cond.methodLink RX12 456 yX12_harmAt ∈ WT := wt_mem 1789 (by decide +kernel) rfl
theorem ml12_459 : Cond.methodLink RX12 459 yX12_isMeet ∈ WT := wt_mem 1801 (by decide +kernel) rfl
theorem ml12_462 : Cond.methodLink RX12 462 yX12_isDate ∈ WT := wt_mem 1820 (by decide +kernel) rfl
theorem ml12_465 : Cond.methodLink RX12 465 yX12_awakeSet ∈ WT := wt_mem 1827 (by decide +kernel) rfl
theorem ml12_468 : Cond.methodLink RX12 468 yX12_act ∈ WT := wt_mem 1839 (by decide +kernel) rfl
theorem ml12_471 : Cond.methodLink RX12 471 yX12_goDate ∈ WT := wt_mem 1851 (by decide +kernel) rfl
theorem ml12_474 : Cond.methodLink RX12 474 yX12_exchange ∈ WT := wt_mem 1859 (by decide +kernel) rfl
theorem ml12_477 : Cond.methodLink RX12 477 yX12_canSet ∈ WT := wt_mem 1875 (by decide +kernel) rfl
theorem ml12_480 : Cond.methodLink RX12 480 yX12_canOn ∈ WT := wt_mem 1883 (by decide +kernel) rfl
theorem ml12_483 : Cond.methodLink RX12 483 yX12_allHarm ∈ WT := wt_mem 1908 (by decide +kernel) rfl
theorem ml12_487 : Cond.methodLink RX12 487 yX12_blissHere ∈ WT := wt_mem 1904 (by decide +kernel) rfl
theorem ml12_490 : Cond.methodLink RX12 490 yX12_laySides ∈ WT := wt_mem 1916 (by decide +kernel) rfl
theorem ml12_493 : Cond.methodLink RX12 493 yX12_putSides ∈ WT := wt_mem 1920 (by decide +kernel) rfl
theorem ml12_496 : Cond.methodLink RX12 496 yX12_joyHere ∈ WT := wt_mem 1928 (by decide +kernel) rfl
theorem ml12_500 : Cond.methodLink RX12 500 yX12_bestSide ∈ WT := wt_mem 1949 (by decide +kernel) rfl
theorem ml12_503 : Cond.methodLink RX12 503 yX12_areServed ∈ WT := wt_mem 1957 (by decide +kernel) rfl
theorem ml12_506 : Cond.methodLink RX12 506 yX12_haveMeet ∈ WT := wt_mem 1973 (by decide +kernel) rfl
theorem ml12_509 : Cond.methodLink RX12 509 yX12_handedOn ∈ WT := wt_mem 1969 (by decide +kernel) rfl
theorem ml12_512 : Cond.methodLink RX12 512 yX12_goLetters ∈ WT := wt_mem 1965 (by decide +kernel) rfl
theorem ml12_515 : Cond.methodLink RX12 515 yX12_divisor ∈ WT := wt_mem 1989 (by decide +kernel) rfl
theorem ml12_518 : Cond.methodLink RX12 518 yX12_isLitPlace ∈ WT := wt_mem 2000 (by decide +kernel) rfl
theorem ml12_525 : Cond.methodLink RX12 525 yX12_lightsAt ∈ WT := wt_mem 2024 (by decide +kernel) rfl
theorem ml12_528 : Cond.methodLink RX12 528 yX12_isFit ∈ WT := wt_mem 2020 (by decide +kernel) rfl
theorem ml12_531 : Cond.methodLink RX12 531 yX12_layFits ∈ WT := wt_mem 2016 (by decide +kernel) rfl
theorem ml12_534 : Cond.methodLink RX12 534 yX12_isBox ∈ WT := wt_mem 2040 (by decide +kernel) rfl
theorem okX12_four : mOK yX12_four cX12_four 3 none 1 := ⟨wt_mem 122 (by decide +kernel) rfl, wt_mem 1566 (by decide +kernel) rfl, by decide +kernel, by decide +kernel, by decide +kernel⟩
theorem inX12_four : Cond.instanceMethod yX12_four ∈ WT ∧ Cond.selects (yX12_four).cls yX12_four yX12_four ∈ WT := ⟨wt_mem 1565 (by decide +kernel) rfl, wt_mem 39 (by decide +kernel) rfl⟩
theorem okX12_feed : mOK yX12_feed cX12_feed 6 (some .int) 5 := ⟨wt_mem 122 (by decide +kernel) rfl, wt_mem 1562 (by decide +kernel) rfl, by decide +kernel, by decide +kernel, by decide +kernel⟩
theorem inX12_feed : Cond.instanceMethod yX12_feed ∈ WT ∧ Cond.selects (yX12_feed).cls yX12_feed yX12_feed ∈ WT := ⟨wt_mem 1560 (by decide +kernel) rfl, wt_mem 1561 (by decide +kernel) rfl⟩
theorem okX12_end : mOK yX12_end cX12_end 2 (some .int) 1 := ⟨wt_mem 122 (by decide +kernel) rfl, wt_mem 1570 (by decide +kernel) rfl, by decide +kernel, by decide +kernel, by decide +kernel⟩
theorem inX12_end : Cond.instanceMethod yX12_end ∈ WT ∧ Cond.selects (yX12_end).cls yX12_end yX12_end ∈ WT := ⟨wt_mem 1568 (by decide +kernel) rfl, wt_mem 1569 (by decide +kernel) rfl⟩
theorem okX12_here : mOK yX12_here cX12_here 2 (some .int) 1 := ⟨wt_mem 122 (by decide +kernel) rfl, wt_mem 1586 (by decide +kernel) rfl, by decide +kernel, by decide +kernel, by decide +kernel⟩
theorem inX12_here : Cond.instanceMethod yX12_here ∈ WT ∧ Cond.selects (yX12_here).cls yX12_here yX12_here ∈ WT := ⟨wt_mem 1585 (by decide +kernel) rfl, wt_mem 42 (by decide +kernel) rfl⟩
theorem okX12_isLetter : mOK yX12_isLetter cX12_isLetter 1 (some .boolean) 1 := ⟨wt_mem 122 (by decide +kernel) rfl, wt_mem 1589 (by decide +kernel) rfl, by decide +kernel, by decide +kernel, by decide +kernel⟩
theorem stX12_isLetter : Cond.static yX12_isLetter ∈ WT := wt_mem 1588 (by decide +kernel) rfl
theorem okX12_isDigit : mOK yX12_isDigit cX12_isDigit 1 (some .boolean) 1 := ⟨wt_mem 122 (by decide +kernel) rfl, wt_mem 1592 (by decide +kernel) rfl, by decide +kernel, by decide +kernel, by decide +kernel⟩
theorem stX12_isDigit : Cond.static yX12_isDigit ∈ WT := wt_mem 1591 (by decide +kernel) rfl
theorem okX12_isSign : mOK yX12_isSign cX12_isSign 1 (some .boolean) 1 := ⟨wt_mem 122 (by decide +kernel) rfl, wt_mem 1595 (by decide +kernel) rfl, by decide +kernel, by decide +kernel, by decide +kernel⟩
theorem stX12_isSign : Cond.static yX12_isSign ∈ WT := wt_mem 1594 (by decide +kernel) rfl
theorem okX12_token : mOK yX12_token cX12_token 3 none 0 := ⟨wt_mem 122 (by decide +kernel) rfl, wt_mem 1582 (by decide +kernel) rfl, by decide +kernel, by decide +kernel, by decide +kernel⟩
theorem inX12_token : Cond.instanceMethod yX12_token ∈ WT ∧ Cond.selects (yX12_token).cls yX12_token yX12_token ∈ WT := ⟨wt_mem 1581 (by decide +kernel) rfl, wt_mem 41 (by decide +kernel) rfl⟩
theorem okX12_wrong : mOK yX12_wrong cX12_wrong 2 none 1 := ⟨wt_mem 122 (by decide +kernel) rfl, wt_mem 1638 (by decide +kernel) rfl, by decide +kernel, by decide +kernel, by decide +kernel⟩
theorem inX12_wrong : Cond.instanceMethod yX12_wrong ∈ WT ∧ Cond.selects (yX12_wrong).cls yX12_wrong yX12_wrong ∈ WT := ⟨wt_mem 1637 (by decide +kernel) rfl, wt_mem 48 (by decide +kernel) rfl⟩
theorem okX12_isWord : mOK yX12_isWord cX12_isWord 3 (some .boolean) 1 := ⟨wt_mem 122 (by decide +kernel) rfl, wt_mem 1604 (by decide +kernel) rfl, by decide +kernel, by decide +kernel, by decide +kernel⟩
theorem inX12_isWord : Cond.instanceMethod yX12_isWord ∈ WT ∧ Cond.selects (yX12_isWord).cls yX12_isWord yX12_isWord ∈ WT := ⟨wt_mem 1603 (by decide +kernel) rfl, wt_mem 44 (by decide +kernel) rfl⟩
theorem okX12_isOwn : mOK yX12_isOwn cX12_isOwn 1 (some .boolean) 0 := ⟨wt_mem 122 (by decide +kernel) rfl, wt_mem 1616 (by decide +kernel) rfl, by decide +kernel, by decide +kernel, by decide +kernel⟩
theorem inX12_isOwn : Cond.instanceMethod yX12_isOwn ∈ WT ∧ Cond.selects (yX12_isOwn).cls yX12_isOwn yX12_isOwn ∈ WT := ⟨wt_mem 1615 (by decide +kernel) rfl, wt_mem 47 (by decide +kernel) rfl⟩
theorem okX12_isName : mOK yX12_isName cX12_isName 1 (some .boolean) 0 := ⟨wt_mem 122 (by decide +kernel) rfl, wt_mem 1612 (by decide +kernel) rfl, by decide +kernel, by decide +kernel, by decide +kernel⟩
theorem inX12_isName : Cond.instanceMethod yX12_isName ∈ WT ∧ Cond.selects (yX12_isName).cls yX12_isName yX12_isName ∈ WT := ⟨wt_mem 1611 (by decide +kernel) rfl, wt_mem 46 (by decide +kernel) rfl⟩
theorem okX12_want : mOK yX12_want cX12_want 3 none 1 := ⟨wt_mem 122 (by decide +kernel) rfl, wt_mem 1650 (by decide +kernel) rfl, by decide +kernel, by decide +kernel, by decide +kernel⟩
theorem inX12_want : Cond.instanceMethod yX12_want ∈ WT ∧ Cond.selects (yX12_want).cls yX12_want yX12_want ∈ WT := ⟨wt_mem 1649 (by decide +kernel) rfl, wt_mem 51 (by decide +kernel) rfl⟩
theorem okX12_toldNumber : mOK yX12_toldNumber cX12_toldNumber 4 (some .int) 2 := ⟨wt_mem 122 (by decide +kernel) rfl, wt_mem 1654 (by decide +kernel) rfl, by decide +kernel, by decide +kernel, by decide +kernel⟩
theorem inX12_toldNumber : Cond.instanceMethod yX12_toldNumber ∈ WT ∧ Cond.selects (yX12_toldNumber).cls yX12_toldNumber yX12_toldNumber ∈ WT := ⟨wt_mem 1653 (by decide +kernel) rfl, wt_mem 52 (by decide +kernel) rfl⟩
theorem okX12_told : mOK yX12_told cX12_told 5 (some .int) 3 := ⟨wt_mem 122 (by decide +kernel) rfl, wt_mem 1646 (by decide +kernel) rfl, by decide +kernel, by decide +kernel, by decide +kernel⟩
theorem inX12_told : Cond.instanceMethod yX12_told ∈ WT ∧ Cond.selects (yX12_told).cls yX12_told yX12_told ∈ WT := ⟨wt_mem 1645 (by decide +kernel) rfl, wt_mem 50 (by decide +kernel) rfl⟩
theorem okX12_find : mOK yX12_find cX12_find 3 (some .int) 0 := ⟨wt_mem 122 (by decide +kernel) rfl, wt_mem 1642 (by decide +kernel) rfl, by decide +kernel, by decide +kernel, by decide +kernel⟩
theorem inX12_find : Cond.instanceMethod yX12_find ∈ WT ∧ Cond.selects (yX12_find).cls yX12_find yX12_find ∈ WT := ⟨wt_mem 1641 (by decide +kernel) rfl, wt_mem 49 (by decide +kernel) rfl⟩
theorem okX12_oldPerson : mOK yX12_oldPerson cX12_oldPerson 1 (some .int) 0 := ⟨wt_mem 122 (by decide +kernel) rfl, wt_mem 1662 (by decide +kernel) rfl, by decide +kernel, by decide +kernel, by decide +kernel⟩
theorem inX12_oldPerson : Cond.instanceMethod yX12_oldPerson ∈ WT ∧ Cond.selects (yX12_oldPerson).cls yX12_oldPerson yX12_oldPerson ∈ WT := ⟨wt_mem 1661 (by decide +kernel) rfl, wt_mem 54 (by decide +kernel) rfl⟩
theorem okX12_add : mOK yX12_add cX12_add 3 none 2 := ⟨wt_mem 122 (by decide +kernel) rfl, wt_mem 1713 (by decide +kernel) rfl, by decide +kernel, by decide +kernel, by decide +kernel⟩
theorem inX12_add : Cond.instanceMethod yX12_add ∈ WT ∧ Cond.selects (yX12_add).cls yX12_add yX12_add ∈ WT := ⟨wt_mem 1712 (by decide +kernel) rfl, wt_mem 66 (by decide +kernel) rfl⟩
theorem okX12_tight : mOK yX12_tight cX12_tight 1 (some .int) 1 := ⟨wt_mem 122 (by decide +kernel) rfl, wt_mem 1693 (by decide +kernel) rfl, by decide +kernel, by decide +kernel, by decide +kernel⟩
theorem stX12_tight : Cond.static yX12_tight ∈ WT := wt_mem 1692 (by decide +kernel) rfl
theorem okX12_close : mOK yX12_close cX12_close 2 none 1 := ⟨wt_mem 122 (by decide +kernel) rfl, wt_mem 1725 (by decide +kernel) rfl, by decide +kernel, by decide +kernel, by decide +kernel⟩
theorem inX12_close : Cond.instanceMethod yX12_close ∈ WT ∧ Cond.selects (yX12_close).cls yX12_close yX12_close ∈ WT := ⟨wt_mem 1724 (by decide +kernel) rfl, wt_mem 69 (by decide +kernel) rfl⟩
theorem okX12_hasRelation : mOK yX12_hasRelation cX12_hasRelation 2 (some .boolean) 0 := ⟨wt_mem 122 (by decide +kernel) rfl, wt_mem 1729 (by decide +kernel) rfl, by decide +kernel, by decide +kernel, by decide +kernel⟩
theorem inX12_hasRelation : Cond.instanceMethod yX12_hasRelation ∈ WT ∧ Cond.selects (yX12_hasRelation).cls yX12_hasRelation yX12_hasRelation ∈ WT := ⟨wt_mem 1728 (by decide +kernel) rfl, wt_mem 70 (by decide +kernel) rfl⟩
theorem okX12_mayNot : mOK yX12_mayNot cX12_mayNot 1 (some .boolean) 0 := ⟨wt_mem 122 (by decide +kernel) rfl, wt_mem 1690 (by decide +kernel) rfl, by decide +kernel, by decide +kernel, by decide +kernel⟩
theorem inX12_mayNot : Cond.instanceMethod yX12_mayNot ∈ WT ∧ Cond.selects (yX12_mayNot).cls yX12_mayNot yX12_mayNot ∈ WT := ⟨wt_mem 1689 (by decide +kernel) rfl, wt_mem 61 (by decide +kernel) rfl⟩
theorem okX12_asked : mOK yX12_asked cX12_asked 1 (some .int) 0 := ⟨wt_mem 122 (by decide +kernel) rfl, wt_mem 1709 (by decide +kernel) rfl, by decide +kernel, by decide +kernel, by decide +kernel⟩
theorem inX12_asked : Cond.instanceMethod yX12_asked ∈ WT ∧ Cond.selects (yX12_asked).cls yX12_asked yX12_asked ∈ WT := ⟨wt_mem 1708 (by decide +kernel) rfl, wt_mem 65 (by decide +kernel) rfl⟩
theorem okX12_isFull : mOK yX12_isFull cX12_isFull 1 (some .boolean) 0 := ⟨wt_mem 122 (by decide +kernel) rfl, wt_mem 1701 (by decide +kernel) rfl, by decide +kernel, by decide +kernel, by decide +kernel⟩
theorem inX12_isFull : Cond.instanceMethod yX12_isFull ∈ WT ∧ Cond.selects (yX12_isFull).cls yX12_isFull yX12_isFull ∈ WT := ⟨wt_mem 1700 (by decide +kernel) rfl, wt_mem 63 (by decide +kernel) rfl⟩
theorem okX12_countUnit : mOK yX12_countUnit cX12_countUnit 1 none 0 := ⟨wt_mem 122 (by decide +kernel) rfl, wt_mem 1705 (by decide +kernel) rfl, by decide +kernel, by decide +kernel, by decide +kernel⟩
theorem inX12_countUnit : Cond.instanceMethod yX12_countUnit ∈ WT ∧ Cond.selects (yX12_countUnit).cls yX12_countUnit yX12_countUnit ∈ WT := ⟨wt_mem 1704 (by decide +kernel) rfl, wt_mem 64 (by decide +kernel) rfl⟩
theorem okX12_openUp : mOK yX12_openUp cX12_openUp 2 none 1 := ⟨wt_mem 122 (by decide +kernel) rfl, wt_mem 1697 (by decide +kernel) rfl, by decide +kernel, by decide +kernel, by decide +kernel⟩
theorem inX12_openUp : Cond.instanceMethod yX12_openUp ∈ WT ∧ Cond.selects (yX12_openUp).cls yX12_openUp yX12_openUp ∈ WT := ⟨wt_mem 1696 (by decide +kernel) rfl, wt_mem 62 (by decide +kernel) rfl⟩
theorem okX12_unit : mOK yX12_unit cX12_unit 3 none 0 := ⟨wt_mem 122 (by decide +kernel) rfl, wt_mem 1686 (by decide +kernel) rfl, by decide +kernel, by decide +kernel, by decide +kernel⟩
theorem inX12_unit : Cond.instanceMethod yX12_unit ∈ WT ∧ Cond.selects (yX12_unit).cls yX12_unit yX12_unit ∈ WT := ⟨wt_mem 1685 (by decide +kernel) rfl, wt_mem 60 (by decide +kernel) rfl⟩
theorem okX12_sign : mOK yX12_sign cX12_sign 1 (some .int) 0 := ⟨wt_mem 122 (by decide +kernel) rfl, wt_mem 1717 (by decide +kernel) rfl, by decide +kernel, by decide +kernel, by decide +kernel⟩
theorem inX12_sign : Cond.instanceMethod yX12_sign ∈ WT ∧ Cond.selects (yX12_sign).cls yX12_sign yX12_sign ∈ WT := ⟨wt_mem 1716 (by decide +kernel) rfl, wt_mem 67 (by decide +kernel) rfl⟩
theorem okX12_hasBracket : mOK yX12_hasBracket cX12_hasBracket 3 (some .boolean) 0 := ⟨wt_mem 122 (by decide +kernel) rfl, wt_mem 1721 (by decide +kernel) rfl, by decide +kernel, by decide +kernel, by decide +kernel⟩
theorem inX12_hasBracket : Cond.instanceMethod yX12_hasBracket ∈ WT ∧ Cond.selects (yX12_hasBracket).cls yX12_hasBracket yX12_hasBracket ∈ WT := ⟨wt_mem 1720 (by decide +kernel) rfl, wt_mem 68 (by decide +kernel) rfl⟩
theorem okX12_formula : mOK yX12_formula cX12_formula 4 none 1 := ⟨wt_mem 122 (by decide +kernel) rfl, wt_mem 1682 (by decide +kernel) rfl, by decide +kernel, by decide +kernel, by decide +kernel⟩
theorem inX12_formula : Cond.instanceMethod yX12_formula ∈ WT ∧ Cond.selects (yX12_formula).cls yX12_formula yX12_formula ∈ WT := ⟨wt_mem 1681 (by decide +kernel) rfl, wt_mem 59 (by decide +kernel) rfl⟩
theorem okX12_truth : mOK yX12_truth cX12_truth 1 (some .int) 1 := ⟨wt_mem 122 (by decide +kernel) rfl, wt_mem 1771 (by decide +kernel) rfl, by decide +kernel, by decide +kernel, by decide +kernel⟩
theorem stX12_truth : Cond.static yX12_truth ∈ WT := wt_mem 1770 (by decide +kernel) rfl
theorem okX12_done : mOK yX12_done cX12_done 3 (some .int) 3 := ⟨wt_mem 122 (by decide +kernel) rfl, wt_mem 1774 (by decide +kernel) rfl, by decide +kernel, by decide +kernel, by decide +kernel⟩
theorem stX12_done : Cond.static yX12_done ∈ WT := wt_mem 1773 (by decide +kernel) rfl
theorem okX12_worked : mOK yX12_worked cX12_worked 7 (some .int) 4 := ⟨wt_mem 122 (by decide +kernel) rfl, wt_mem 1768 (by decide +kernel) rfl, by decide +kernel, by decide +kernel, by decide +kernel⟩
theorem inX12_worked : Cond.instanceMethod yX12_worked ∈ WT ∧ Cond.selects (yX12_worked).cls yX12_worked yX12_worked ∈ WT := ⟨wt_mem 1767 (by decide +kernel) rfl, wt_mem 77 (by decide +kernel) rfl⟩
theorem okX12_readPerson : mOK yX12_readPerson cX12_readPerson 2 none 0 := ⟨wt_mem 122 (by decide +kernel) rfl, wt_mem 1608 (by decide +kernel) rfl, by decide +kernel, by decide +kernel, by decide +kernel⟩
theorem inX12_readPerson : Cond.instanceMethod yX12_readPerson ∈ WT ∧ Cond.selects (yX12_readPerson).cls yX12_readPerson yX12_readPerson ∈ WT := ⟨wt_mem 1607 (by decide +kernel) rfl, wt_mem 45 (by decide +kernel) rfl⟩
theorem okX12_isMeetTold : mOK yX12_isMeetTold cX12_isMeetTold 5 (some .boolean) 2 := ⟨wt_mem 122 (by decide +kernel) rfl, wt_mem 1666 (by decide +kernel) rfl, by decide +kernel, by decide +kernel, by decide +kernel⟩
theorem inX12_isMeetTold : Cond.instanceMethod yX12_isMeetTold ∈ WT ∧ Cond.selects (yX12_isMeetTold).cls yX12_isMeetTold yX12_isMeetTold ∈ WT := ⟨wt_mem 1665 (by decide +kernel) rfl, wt_mem 55 (by decide +kernel) rfl⟩
theorem okX12_readMeet : mOK yX12_readMeet cX12_readMeet 3 none 0 := ⟨wt_mem 122 (by decide +kernel) rfl, wt_mem 1658 (by decide +kernel) rfl, by decide +kernel, by decide +kernel, by decide +kernel⟩
theorem inX12_readMeet : Cond.instanceMethod yX12_readMeet ∈ WT ∧ Cond.selects (yX12_readMeet).cls yX12_readMeet yX12_readMeet ∈ WT := ⟨wt_mem 1657 (by decide +kernel) rfl, wt_mem 53 (by decide +kernel) rfl⟩
theorem okX12_isNoiseTold : mOK yX12_isNoiseTold cX12_isNoiseTold 5 (some .boolean) 2 := ⟨wt_mem 122 (by decide +kernel) rfl, wt_mem 1674 (by decide +kernel) rfl, by decide +kernel, by decide +kernel, by decide +kernel⟩
theorem inX12_isNoiseTold : Cond.instanceMethod yX12_isNoiseTold ∈ WT ∧ Cond.selects (yX12_isNoiseTold).cls yX12_isNoiseTold yX12_isNoiseTold ∈ WT := ⟨wt_mem 1673 (by decide +kernel) rfl, wt_mem 57 (by decide +kernel) rfl⟩
theorem okX12_readNoise : mOK yX12_readNoise cX12_readNoise 2 none 0 := ⟨wt_mem 122 (by decide +kernel) rfl, wt_mem 1670 (by decide +kernel) rfl, by decide +kernel, by decide +kernel, by decide +kernel⟩
theorem inX12_readNoise : Cond.instanceMethod yX12_readNoise ∈ WT ∧ Cond.selects (yX12_readNoise).cls yX12_readNoise yX12_readNoise ∈ WT := ⟨wt_mem 1669 (by decide +kernel) rfl, wt_mem 56 (by decide +kernel) rfl⟩
theorem okX12_readWakeful : mOK yX12_readWakeful cX12_readWakeful 3 none 0 := ⟨wt_mem 122 (by decide +kernel) rfl, wt_mem 1678 (by decide +kernel) rfl, by decide +kernel, by decide +kernel, by decide +kernel⟩
theorem inX12_readWakeful : Cond.instanceMethod yX12_readWakeful ∈ WT ∧ Cond.selects (yX12_readWakeful).cls yX12_readWakeful yX12_readWakeful ∈ WT := ⟨wt_mem 1677 (by decide +kernel) rfl, wt_mem 58 (by decide +kernel) rfl⟩
theorem okX12_readLine : mOK yX12_readLine cX12_readLine 1 none 0 := ⟨wt_mem 122 (by decide +kernel) rfl, wt_mem 1599 (by decide +kernel) rfl, by decide +kernel, by decide +kernel, by decide +kernel⟩
theorem inX12_readLine : Cond.instanceMethod yX12_readLine ∈ WT ∧ Cond.selects (yX12_readLine).cls yX12_readLine yX12_readLine ∈ WT := ⟨wt_mem 1598 (by decide +kernel) rfl, wt_mem 43 (by decide +kernel) rfl⟩
theorem okX12_readAll : mOK yX12_readAll cX12_readAll 2 none 0 := ⟨wt_mem 122 (by decide +kernel) rfl, wt_mem 1578 (by decide +kernel) rfl, by decide +kernel, by decide +kernel, by decide +kernel⟩
theorem inX12_readAll : Cond.instanceMethod yX12_readAll ∈ WT ∧ Cond.selects (yX12_readAll).cls yX12_readAll yX12_readAll ∈ WT := ⟨wt_mem 1577 (by decide +kernel) rfl, wt_mem 40 (by decide +kernel) rfl⟩
theorem okX12_town : mOK yX12_town cX12_town 3 (some .int) 0 := ⟨wt_mem 122 (by decide +kernel) rfl, wt_mem 1574 (by decide +kernel) rfl, by decide +kernel, by decide +kernel, by decide +kernel⟩
theorem inX12_town : Cond.instanceMethod yX12_town ∈ WT ∧ Cond.selects (yX12_town).cls yX12_town yX12_town ∈ WT := ⟨wt_mem 1572 (by decide +kernel) rfl, wt_mem 1573 (by decide +kernel) rfl⟩
theorem okX12_fault : mOK yX12_fault cX12_fault 2 (some .int) 1 := ⟨wt_mem 122 (by decide +kernel) rfl, wt_mem 1733 (by decide +kernel) rfl, by decide +kernel, by decide +kernel, by decide +kernel⟩
theorem inX12_fault : Cond.instanceMethod yX12_fault ∈ WT ∧ Cond.selects (yX12_fault).cls yX12_fault yX12_fault ∈ WT := ⟨wt_mem 1731 (by decide +kernel) rfl, wt_mem 1732 (by decide +kernel) rfl⟩
theorem okX12_isIn : mOK yX12_isIn cX12_isIn 3 (some .boolean) 3 := ⟨wt_mem 122 (by decide +kernel) rfl, wt_mem 1744 (by decide +kernel) rfl, by decide +kernel, by decide +kernel, by decide +kernel⟩
theorem stX12_isIn : Cond.static yX12_isIn ∈ WT := wt_mem 1743 (by decide +kernel) rfl
theorem okX12_isPerson : mOK yX12_isPerson cX12_isPerson 2 (some .boolean) 1 := ⟨wt_mem 122 (by decide +kernel) rfl, wt_mem 1741 (by decide +kernel) rfl, by decide +kernel, by decide +kernel, by decide +kernel⟩
theorem inX12_isPerson : Cond.instanceMethod yX12_isPerson ∈ WT ∧ Cond.selects (yX12_isPerson).cls yX12_isPerson yX12_isPerson ∈ WT := ⟨wt_mem 1740 (by decide +kernel) rfl, wt_mem 71 (by decide +kernel) rfl⟩
theorem okX12_isMeet : mOK yX12_isMeet cX12_isMeet 2 (some .boolean) 1 := ⟨wt_mem 122 (by decide +kernel) rfl, wt_mem 1804 (by decide +kernel) rfl, by decide +kernel, by decide +kernel, by decide +kernel⟩
theorem inX12_isMeet : Cond.instanceMethod yX12_isMeet ∈ WT ∧ Cond.selects (yX12_isMeet).cls yX12_isMeet yX12_isMeet ∈ WT := ⟨wt_mem 1803 (by decide +kernel) rfl, wt_mem 82 (by decide +kernel) rfl⟩
theorem okX12_isDate : mOK yX12_isDate cX12_isDate 1 (some .boolean) 1 := ⟨wt_mem 122 (by decide +kernel) rfl, wt_mem 1822 (by decide +kernel) rfl, by decide +kernel, by decide +kernel, by decide +kernel⟩
theorem stX12_isDate : Cond.static yX12_isDate ∈ WT := wt_mem 1821 (by decide +kernel) rfl
theorem okX12_load : mOK yX12_load cX12_load 2 none 0 := ⟨wt_mem 122 (by decide +kernel) rfl, wt_mem 1752 (by decide +kernel) rfl, by decide +kernel, by decide +kernel, by decide +kernel⟩
theorem inX12_load : Cond.instanceMethod yX12_load ∈ WT ∧ Cond.selects (yX12_load).cls yX12_load yX12_load ∈ WT := ⟨wt_mem 1751 (by decide +kernel) rfl, wt_mem 73 (by decide +kernel) rfl⟩
theorem okX12_askOf : mOK yX12_askOf cX12_askOf 5 none 4 := ⟨wt_mem 122 (by decide +kernel) rfl, wt_mem 1764 (by decide +kernel) rfl, by decide +kernel, by decide +kernel, by decide +kernel⟩
theorem inX12_askOf : Cond.instanceMethod yX12_askOf ∈ WT ∧ Cond.selects (yX12_askOf).cls yX12_askOf yX12_askOf ∈ WT := ⟨wt_mem 1763 (by decide +kernel) rfl, wt_mem 76 (by decide +kernel) rfl⟩
theorem okX12_dawnOf : mOK yX12_dawnOf cX12_dawnOf 2 (some .int) 1 := ⟨wt_mem 122 (by decide +kernel) rfl, wt_mem 1760 (by decide +kernel) rfl, by decide +kernel, by decide +kernel, by decide +kernel⟩
theorem inX12_dawnOf : Cond.instanceMethod yX12_dawnOf ∈ WT ∧ Cond.selects (yX12_dawnOf).cls yX12_dawnOf yX12_dawnOf ∈ WT := ⟨wt_mem 1759 (by decide +kernel) rfl, wt_mem 75 (by decide +kernel) rfl⟩
theorem okX12_duskOf : mOK yX12_duskOf cX12_duskOf 2 (some .int) 1 := ⟨wt_mem 122 (by decide +kernel) rfl, wt_mem 1778 (by decide +kernel) rfl, by decide +kernel, by decide +kernel, by decide +kernel⟩
theorem inX12_duskOf : Cond.instanceMethod yX12_duskOf ∈ WT ∧ Cond.selects (yX12_duskOf).cls yX12_duskOf yX12_duskOf ∈ WT := ⟨wt_mem 1777 (by decide +kernel) rfl, wt_mem 78 (by decide +kernel) rfl⟩
theorem okX12_apart : mOK yX12_apart cX12_apart 2 (some .int) 2 := ⟨wt_mem 122 (by decide +kernel) rfl, wt_mem 1784 (by decide +kernel) rfl, by decide +kernel, by decide +kernel, by decide +kernel⟩
theorem stX12_apart : Cond.static yX12_apart ∈ WT := wt_mem 1783 (by decide +kernel) rfl
theorem okX12_isHinge : mOK yX12_isHinge cX12_isHinge 3 (some .boolean) 2 := ⟨wt_mem 122 (by decide +kernel) rfl, wt_mem 1781 (by decide +kernel) rfl, by decide +kernel, by decide +kernel, by decide +kernel⟩
theorem stX12_isHinge : Cond.static yX12_isHinge ∈ WT := wt_mem 1780 (by decide +kernel) rfl
theorem okX12_layDate : mOK yX12_layDate cX12_layDate 7 none 1 := ⟨wt_mem 122 (by decide +kernel) rfl, wt_mem 1756 (by decide +kernel) rfl, by decide +kernel, by decide +kernel, by decide +kernel⟩
theorem inX12_layDate : Cond.instanceMethod yX12_layDate ∈ WT ∧ Cond.selects (yX12_layDate).cls yX12_layDate yX12_layDate ∈ WT := ⟨wt_mem 1755 (by decide +kernel) rfl, wt_mem 74 (by decide +kernel) rfl⟩
theorem okX12_loadDate : mOK yX12_loadDate cX12_loadDate 2 none 1 := ⟨wt_mem 122 (by decide +kernel) rfl, wt_mem 1748 (by decide +kernel) rfl, by decide +kernel, by decide +kernel, by decide +kernel⟩
theorem inX12_loadDate : Cond.instanceMethod yX12_loadDate ∈ WT ∧ Cond.selects (yX12_loadDate).cls yX12_loadDate yX12_loadDate ∈ WT := ⟨wt_mem 1747 (by decide +kernel) rfl, wt_mem 72 (by decide +kernel) rfl⟩
theorem okX12_isAwake : mOK yX12_isAwake cX12_isAwake 3 (some .boolean) 2 := ⟨wt_mem 122 (by decide +kernel) rfl, wt_mem 1788 (by decide +kernel) rfl, by decide +kernel, by decide +kernel, by decide +kernel⟩
theorem inX12_isAwake : Cond.instanceMethod yX12_isAwake ∈ WT ∧ Cond.selects (yX12_isAwake).cls yX12_isAwake yX12_isAwake ∈ WT := ⟨wt_mem 1787 (by decide +kernel) rfl, wt_mem 79 (by decide +kernel) rfl⟩
theorem okX12_harmBy : mOK yX12_harmBy cX12_harmBy 4 (some .int) 2 := ⟨wt_mem 122 (by decide +kernel) rfl, wt_mem 1796 (by decide +kernel) rfl, by decide +kernel, by decide +kernel, by decide +kernel⟩
theorem inX12_harmBy : Cond.instanceMethod yX12_harmBy ∈ WT ∧ Cond.selects (yX12_harmBy).cls yX12_harmBy yX12_harmBy ∈ WT := ⟨wt_mem 1795 (by decide +kernel) rfl, wt_mem 81 (by decide +kernel) rfl⟩
theorem okX12_harmAt : mOK yX12_harmAt cX12_harmAt 5 (some .int) 2 := ⟨wt_mem 122 (by decide +kernel) rfl, wt_mem 1792 (by decide +kernel) rfl, by decide +kernel, by decide +kernel, by decide +kernel⟩
theorem inX12_harmAt : Cond.instanceMethod yX12_harmAt ∈ WT ∧ Cond.selects (yX12_harmAt).cls yX12_harmAt yX12_harmAt ∈ WT := ⟨wt_mem 1791 (by decide +kernel) rfl, wt_mem 80 (by decide +kernel) rfl⟩
theorem okX12_harmOf : mOK yX12_harmOf cX12_harmOf 4 (some .int) 1 := ⟨wt_mem 122 (by decide +kernel) rfl, wt_mem 1898 (by decide +kernel) rfl, by decide +kernel, by decide +kernel, by decide +kernel⟩
theorem inX12_harmOf : Cond.instanceMethod yX12_harmOf ∈ WT ∧ Cond.selects (yX12_harmOf).cls yX12_harmOf yX12_harmOf ∈ WT := ⟨wt_mem 1897 (by decide +kernel) rfl, wt_mem 91 (by decide +kernel) rfl⟩
theorem okX12_allHarm : mOK yX12_allHarm cX12_allHarm 3 (some .int) 0 := ⟨wt_mem 122 (by decide +kernel) rfl, wt_mem 1911 (by decide +kernel) rfl, by decide +kernel, by decide +kernel, by decide +kernel⟩
theorem inX12_allHarm : Cond.instanceMethod yX12_allHarm ∈ WT ∧ Cond.selects (yX12_allHarm).cls yX12_allHarm yX12_allHarm ∈ WT := ⟨wt_mem 1910 (by decide +kernel) rfl, wt_mem 93 (by decide +kernel) rfl⟩
theorem okX12_members : mOK yX12_members cX12_members 3 (some .int) 1 := ⟨wt_mem 122 (by decide +kernel) rfl, wt_mem 1815 (by decide +kernel) rfl, by decide +kernel, by decide +kernel, by decide +kernel⟩
theorem stX12_members : Cond.static yX12_members ∈ WT := wt_mem 1814 (by decide +kernel) rfl
theorem okX12_commonOf : mOK yX12_commonOf cX12_commonOf 3 (some .int) 2 := ⟨wt_mem 122 (by decide +kernel) rfl, wt_mem 1812 (by decide +kernel) rfl, by decide +kernel, by decide +kernel, by decide +kernel⟩
theorem inX12_commonOf : Cond.instanceMethod yX12_commonOf ∈ WT ∧ Cond.selects (yX12_commonOf).cls yX12_commonOf yX12_commonOf ∈ WT := ⟨wt_mem 1811 (by decide +kernel) rfl, wt_mem 84 (by decide +kernel) rfl⟩
theorem okX12_canMeet : mOK yX12_canMeet cX12_canMeet 2 (some .boolean) 1 := ⟨wt_mem 122 (by decide +kernel) rfl, wt_mem 1808 (by decide +kernel) rfl, by decide +kernel, by decide +kernel, by decide +kernel⟩
theorem inX12_canMeet : Cond.instanceMethod yX12_canMeet ∈ WT ∧ Cond.selects (yX12_canMeet).cls yX12_canMeet yX12_canMeet ∈ WT := ⟨wt_mem 1807 (by decide +kernel) rfl, wt_mem 83 (by decide +kernel) rfl⟩
theorem okX12_canSet : mOK yX12_canSet cX12_canSet 3 (some .int) 0 := ⟨wt_mem 122 (by decide +kernel) rfl, wt_mem 1878 (by decide +kernel) rfl, by decide +kernel, by decide +kernel, by decide +kernel⟩
theorem inX12_canSet : Cond.instanceMethod yX12_canSet ∈ WT ∧ Cond.selects (yX12_canSet).cls yX12_canSet yX12_canSet ∈ WT := ⟨wt_mem 1877 (by decide +kernel) rfl, wt_mem 89 (by decide +kernel) rfl⟩
theorem okX12_awakeSet : mOK yX12_awakeSet cX12_awakeSet 4 (some .int) 1 := ⟨wt_mem 122 (by decide +kernel) rfl, wt_mem 1830 (by decide +kernel) rfl, by decide +kernel, by decide +kernel, by decide +kernel⟩
theorem inX12_awakeSet : Cond.instanceMethod yX12_awakeSet ∈ WT ∧ Cond.selects (yX12_awakeSet).cls yX12_awakeSet yX12_awakeSet ∈ WT := ⟨wt_mem 1829 (by decide +kernel) rfl, wt_mem 85 (by decide +kernel) rfl⟩
theorem okX12_person : mOK yX12_person cX12_person 3 (some .int) 2 := ⟨wt_mem 122 (by decide +kernel) rfl, wt_mem 1737 (by decide +kernel) rfl, by decide +kernel, by decide +kernel, by decide +kernel⟩
theorem inX12_person : Cond.instanceMethod yX12_person ∈ WT ∧ Cond.selects (yX12_person).cls yX12_person yX12_person ∈ WT := ⟨wt_mem 1735 (by decide +kernel) rfl, wt_mem 1736 (by decide +kernel) rfl⟩
theorem okX12_meet : mOK yX12_meet cX12_meet 3 (some .int) 2 := ⟨wt_mem 122 (by decide +kernel) rfl, wt_mem 1800 (by decide +kernel) rfl, by decide +kernel, by decide +kernel, by decide +kernel⟩
theorem inX12_meet : Cond.instanceMethod yX12_meet ∈ WT ∧ Cond.selects (yX12_meet).cls yX12_meet yX12_meet ∈ WT := ⟨wt_mem 1798 (by decide +kernel) rfl, wt_mem 1799 (by decide +kernel) rfl⟩
theorem okX12_light : mOK yX12_light cX12_light 3 (some .int) 2 := ⟨wt_mem 122 (by decide +kernel) rfl, wt_mem 1819 (by decide +kernel) rfl, by decide +kernel, by decide +kernel, by decide +kernel⟩
theorem inX12_light : Cond.instanceMethod yX12_light ∈ WT ∧ Cond.selects (yX12_light).cls yX12_light yX12_light ∈ WT := ⟨wt_mem 1817 (by decide +kernel) rfl, wt_mem 1818 (by decide +kernel) rfl⟩
theorem okX12_awake : mOK yX12_awake cX12_awake 3 (some .int) 2 := ⟨wt_mem 122 (by decide +kernel) rfl, wt_mem 1826 (by decide +kernel) rfl, by decide +kernel, by decide +kernel, by decide +kernel⟩
theorem inX12_awake : Cond.instanceMethod yX12_awake ∈ WT ∧ Cond.selects (yX12_awake).cls yX12_awake yX12_awake ∈ WT := ⟨wt_mem 1824 (by decide +kernel) rfl, wt_mem 1825 (by decide +kernel) rfl⟩
theorem okX12_noise : mOK yX12_noise cX12_noise 5 (some .int) 2 := ⟨wt_mem 122 (by decide +kernel) rfl, wt_mem 1834 (by decide +kernel) rfl, by decide +kernel, by decide +kernel, by decide +kernel⟩
theorem inX12_noise : Cond.instanceMethod yX12_noise ∈ WT ∧ Cond.selects (yX12_noise).cls yX12_noise yX12_noise ∈ WT := ⟨wt_mem 1832 (by decide +kernel) rfl, wt_mem 1833 (by decide +kernel) rfl⟩
theorem okX12_act : mOK yX12_act cX12_act 2 none 0 := ⟨wt_mem 122 (by decide +kernel) rfl, wt_mem 1842 (by decide +kernel) rfl, by decide +kernel, by decide +kernel, by decide +kernel⟩
theorem inX12_act : Cond.instanceMethod yX12_act ∈ WT ∧ Cond.selects (yX12_act).cls yX12_act yX12_act ∈ WT := ⟨wt_mem 1841 (by decide +kernel) rfl, wt_mem 86 (by decide +kernel) rfl⟩
theorem okX12_exchange : mOK yX12_exchange cX12_exchange 4 none 1 := ⟨wt_mem 122 (by decide +kernel) rfl, wt_mem 1862 (by decide +kernel) rfl, by decide +kernel, by decide +kernel, by decide +kernel⟩
theorem inX12_exchange : Cond.instanceMethod yX12_exchange ∈ WT ∧ Cond.selects (yX12_exchange).cls yX12_exchange yX12_exchange ∈ WT := ⟨wt_mem 1861 (by decide +kernel) rfl, wt_mem 88 (by decide +kernel) rfl⟩
theorem okX12_go : mOK yX12_go cX12_go 4 (some .int) 2 := ⟨wt_mem 122 (by decide +kernel) rfl, wt_mem 1838 (by decide +kernel) rfl, by decide +kernel, by decide +kernel, by decide +kernel⟩
theorem inX12_go : Cond.instanceMethod yX12_go ∈ WT ∧ Cond.selects (yX12_go).cls yX12_go yX12_go ∈ WT := ⟨wt_mem 1836 (by decide +kernel) rfl, wt_mem 1837 (by decide +kernel) rfl⟩
theorem okX12_hush : mOK yX12_hush cX12_hush 2 (some .int) 1 := ⟨wt_mem 122 (by decide +kernel) rfl, wt_mem 1846 (by decide +kernel) rfl, by decide +kernel, by decide +kernel, by decide +kernel⟩
theorem inX12_hush : Cond.instanceMethod yX12_hush ∈ WT ∧ Cond.selects (yX12_hush).cls yX12_hush yX12_hush ∈ WT := ⟨wt_mem 1844 (by decide +kernel) rfl, wt_mem 1845 (by decide +kernel) rfl⟩
theorem okX12_goDate : mOK yX12_goDate cX12_goDate 2 none 0 := ⟨wt_mem 122 (by decide +kernel) rfl, wt_mem 1854 (by decide +kernel) rfl, by decide +kernel, by decide +kernel, by decide +kernel⟩
theorem inX12_goDate : Cond.instanceMethod yX12_goDate ∈ WT ∧ Cond.selects (yX12_goDate).cls yX12_goDate yX12_goDate ∈ WT := ⟨wt_mem 1853 (by decide +kernel) rfl, wt_mem 87 (by decide +kernel) rfl⟩
theorem okX12_hour : mOK yX12_hour cX12_hour 4 (some .int) 0 := ⟨wt_mem 122 (by decide +kernel) rfl, wt_mem 1850 (by decide +kernel) rfl, by decide +kernel, by decide +kernel, by decide +kernel⟩
theorem inX12_hour : Cond.instanceMethod yX12_hour ∈ WT ∧ Cond.selects (yX12_hour).cls yX12_hour yX12_hour ∈ WT := ⟨wt_mem 1848 (by decide +kernel) rfl, wt_mem 1849 (by decide +kernel) rfl⟩
theorem okX12_undo : mOK yX12_undo cX12_undo 1 (some .boolean) 0 := ⟨wt_mem 122 (by decide +kernel) rfl, wt_mem 1858 (by decide +kernel) rfl, by decide +kernel, by decide +kernel, by decide +kernel⟩
theorem inX12_undo : Cond.instanceMethod yX12_undo ∈ WT ∧ Cond.selects (yX12_undo).cls yX12_undo yX12_undo ∈ WT := ⟨wt_mem 1856 (by decide +kernel) rfl, wt_mem 1857 (by decide +kernel) rfl⟩
theorem okX12_redo : mOK yX12_redo cX12_redo 1 (some .boolean) 0 := ⟨wt_mem 122 (by decide +kernel) rfl, wt_mem 1866 (by decide +kernel) rfl, by decide +kernel, by decide +kernel, by decide +kernel⟩
theorem inX12_redo : Cond.instanceMethod yX12_redo ∈ WT ∧ Cond.selects (yX12_redo).cls yX12_redo yX12_redo ∈ WT := ⟨wt_mem 1864 (by decide +kernel) rfl, wt_mem 1865 (by decide +kernel) rfl⟩
theorem okX12_common : mOK yX12_common cX12_common 4 (some .int) 3 := ⟨wt_mem 122 (by decide +kernel) rfl, wt_mem 1870 (by decide +kernel) rfl, by decide +kernel, by decide +kernel, by decide +kernel⟩
theorem inX12_common : Cond.instanceMethod yX12_common ∈ WT ∧ Cond.selects (yX12_common).cls yX12_common yX12_common ∈ WT := ⟨wt_mem 1868 (by decide +kernel) rfl, wt_mem 1869 (by decide +kernel) rfl⟩
theorem okX12_can : mOK yX12_can cX12_can 2 (some .int) 1 := ⟨wt_mem 122 (by decide +kernel) rfl, wt_mem 1874 (by decide +kernel) rfl, by decide +kernel, by decide +kernel, by decide +kernel⟩
theorem inX12_can : Cond.instanceMethod yX12_can ∈ WT ∧ Cond.selects (yX12_can).cls yX12_can yX12_can ∈ WT := ⟨wt_mem 1872 (by decide +kernel) rfl, wt_mem 1873 (by decide +kernel) rfl⟩
theorem okX12_canOn : mOK yX12_canOn cX12_canOn 3 (some .boolean) 2 := ⟨wt_mem 122 (by decide +kernel) rfl, wt_mem 1886 (by decide +kernel) rfl, by decide +kernel, by decide +kernel, by decide +kernel⟩
theorem inX12_canOn : Cond.instanceMethod yX12_canOn ∈ WT ∧ Cond.selects (yX12_canOn).cls yX12_canOn yX12_canOn ∈ WT := ⟨wt_mem 1885 (by decide +kernel) rfl, wt_mem 90 (by decide +kernel) rfl⟩
theorem okX12_never : mOK yX12_never cX12_never 4 (some .int) 1 := ⟨wt_mem 122 (by decide +kernel) rfl, wt_mem 1882 (by decide +kernel) rfl, by decide +kernel, by decide +kernel, by decide +kernel⟩
theorem inX12_never : Cond.instanceMethod yX12_never ∈ WT ∧ Cond.selects (yX12_never).cls yX12_never yX12_never ∈ WT := ⟨wt_mem 1880 (by decide +kernel) rfl, wt_mem 1881 (by decide +kernel) rfl⟩
theorem okX12_dates : mOK yX12_dates cX12_dates 4 (some .int) 1 := ⟨wt_mem 122 (by decide +kernel) rfl, wt_mem 1890 (by decide +kernel) rfl, by decide +kernel, by decide +kernel, by decide +kernel⟩
theorem inX12_dates : Cond.instanceMethod yX12_dates ∈ WT ∧ Cond.selects (yX12_dates).cls yX12_dates yX12_dates ∈ WT := ⟨wt_mem 1888 (by decide +kernel) rfl, wt_mem 1889 (by decide +kernel) rfl⟩
theorem okX12_harmed : mOK yX12_harmed cX12_harmed 3 (some .int) 2 := ⟨wt_mem 122 (by decide +kernel) rfl, wt_mem 1894 (by decide +kernel) rfl, by decide +kernel, by decide +kernel, by decide +kernel⟩
theorem inX12_harmed : Cond.instanceMethod yX12_harmed ∈ WT ∧ Cond.selects (yX12_harmed).cls yX12_harmed yX12_harmed ∈ WT := ⟨wt_mem 1892 (by decide +kernel) rfl, wt_mem 1893 (by decide +kernel) rfl⟩
theorem okX12_blissHere : mOK yX12_blissHere cX12_blissHere 3 (some .int) 0 := ⟨wt_mem 122 (by decide +kernel) rfl, wt_mem 1907 (by decide +kernel) rfl, by decide +kernel, by decide +kernel, by decide +kernel⟩
theorem inX12_blissHere : Cond.instanceMethod yX12_blissHere ∈ WT ∧ Cond.selects (yX12_blissHere).cls yX12_blissHere yX12_blissHere ∈ WT := ⟨wt_mem 1906 (by decide +kernel) rfl, wt_mem 92 (by decide +kernel) rfl⟩
theorem okX12_bliss : mOK yX12_bliss cX12_bliss 2 (some .int) 1 := ⟨wt_mem 122 (by decide +kernel) rfl, wt_mem 1902 (by decide +kernel) rfl, by decide +kernel, by decide +kernel, by decide +kernel⟩
theorem inX12_bliss : Cond.instanceMethod yX12_bliss ∈ WT ∧ Cond.selects (yX12_bliss).cls yX12_bliss yX12_bliss ∈ WT := ⟨wt_mem 1900 (by decide +kernel) rfl, wt_mem 1901 (by decide +kernel) rfl⟩
theorem okX12_laySides : mOK yX12_laySides cX12_laySides 5 (some .int) 1 := ⟨wt_mem 122 (by decide +kernel) rfl, wt_mem 1919 (by decide +kernel) rfl, by decide +kernel, by decide +kernel, by decide +kernel⟩
theorem inX12_laySides : Cond.instanceMethod yX12_laySides ∈ WT ∧ Cond.selects (yX12_laySides).cls yX12_laySides yX12_laySides ∈ WT := ⟨wt_mem 1918 (by decide +kernel) rfl, wt_mem 94 (by decide +kernel) rfl⟩
theorem okX12_putSides : mOK yX12_putSides cX12_putSides 2 none 0 := ⟨wt_mem 122 (by decide +kernel) rfl, wt_mem 1923 (by decide +kernel) rfl, by decide +kernel, by decide +kernel, by decide +kernel⟩
theorem inX12_putSides : Cond.instanceMethod yX12_putSides ∈ WT ∧ Cond.selects (yX12_putSides).cls yX12_putSides yX12_putSides ∈ WT := ⟨wt_mem 1922 (by decide +kernel) rfl, wt_mem 95 (by decide +kernel) rfl⟩
theorem okX12_cut : mOK yX12_cut cX12_cut 8 (some .int) 0 := ⟨wt_mem 122 (by decide +kernel) rfl, wt_mem 1915 (by decide +kernel) rfl, by decide +kernel, by decide +kernel, by decide +kernel⟩
theorem inX12_cut : Cond.instanceMethod yX12_cut ∈ WT ∧ Cond.selects (yX12_cut).cls yX12_cut yX12_cut ∈ WT := ⟨wt_mem 1913 (by decide +kernel) rfl, wt_mem 1914 (by decide +kernel) rfl⟩
theorem okX12_joyHere : mOK yX12_joyHere cX12_joyHere 4 (some .int) 1 := ⟨wt_mem 122 (by decide +kernel) rfl, wt_mem 1931 (by decide +kernel) rfl, by decide +kernel, by decide +kernel, by decide +kernel⟩
theorem inX12_joyHere : Cond.instanceMethod yX12_joyHere ∈ WT ∧ Cond.selects (yX12_joyHere).cls yX12_joyHere yX12_joyHere ∈ WT := ⟨wt_mem 1930 (by decide +kernel) rfl, wt_mem 96 (by decide +kernel) rfl⟩
theorem okX12_joy : mOK yX12_joy cX12_joy 3 (some .int) 2 := ⟨wt_mem 122 (by decide +kernel) rfl, wt_mem 1927 (by decide +kernel) rfl, by decide +kernel, by decide +kernel, by decide +kernel⟩
theorem inX12_joy : Cond.instanceMethod yX12_joy ∈ WT ∧ Cond.selects (yX12_joy).cls yX12_joy yX12_joy ∈ WT := ⟨wt_mem 1925 (by decide +kernel) rfl, wt_mem 1926 (by decide +kernel) rfl⟩
theorem okX12_lonely : mOK yX12_lonely cX12_lonely 4 (some .int) 1 := ⟨wt_mem 122 (by decide +kernel) rfl, wt_mem 1935 (by decide +kernel) rfl, by decide +kernel, by decide +kernel, by decide +kernel⟩
theorem inX12_lonely : Cond.instanceMethod yX12_lonely ∈ WT ∧ Cond.selects (yX12_lonely).cls yX12_lonely yX12_lonely ∈ WT := ⟨wt_mem 1933 (by decide +kernel) rfl, wt_mem 1934 (by decide +kernel) rfl⟩
theorem okX12_hinges : mOK yX12_hinges cX12_hinges 4 (some .int) 1 := ⟨wt_mem 122 (by decide +kernel) rfl, wt_mem 1939 (by decide +kernel) rfl, by decide +kernel, by decide +kernel, by decide +kernel⟩
theorem inX12_hinges : Cond.instanceMethod yX12_hinges ∈ WT ∧ Cond.selects (yX12_hinges).cls yX12_hinges yX12_hinges ∈ WT := ⟨wt_mem 1937 (by decide +kernel) rfl, wt_mem 1938 (by decide +kernel) rfl⟩
theorem okX12_loudest : mOK yX12_loudest cX12_loudest 8 (some .int) 2 := ⟨wt_mem 122 (by decide +kernel) rfl, wt_mem 1944 (by decide +kernel) rfl, by decide +kernel, by decide +kernel, by decide +kernel⟩
theorem inX12_loudest : Cond.instanceMethod yX12_loudest ∈ WT ∧ Cond.selects (yX12_loudest).cls yX12_loudest yX12_loudest ∈ WT := ⟨wt_mem 1942 (by decide +kernel) rfl, wt_mem 1943 (by decide +kernel) rfl⟩
theorem okX12_bestSide : mOK yX12_bestSide cX12_bestSide 6 (some .int) 1 := ⟨wt_mem 122 (by decide +kernel) rfl, wt_mem 1952 (by decide +kernel) rfl, by decide +kernel, by decide +kernel, by decide +kernel⟩
theorem inX12_bestSide : Cond.instanceMethod yX12_bestSide ∈ WT ∧ Cond.selects (yX12_bestSide).cls yX12_bestSide yX12_bestSide ∈ WT := ⟨wt_mem 1951 (by decide +kernel) rfl, wt_mem 97 (by decide +kernel) rfl⟩
theorem okX12_rest : mOK yX12_rest cX12_rest 5 (some .int) 0 := ⟨wt_mem 122 (by decide +kernel) rfl, wt_mem 1948 (by decide +kernel) rfl, by decide +kernel, by decide +kernel, by decide +kernel⟩
theorem inX12_rest : Cond.instanceMethod yX12_rest ∈ WT ∧ Cond.selects (yX12_rest).cls yX12_rest yX12_rest ∈ WT := ⟨wt_mem 1946 (by decide +kernel) rfl, wt_mem 1947 (by decide +kernel) rfl⟩
theorem okX12_areServed : mOK yX12_areServed cX12_areServed 4 (some .boolean) 1 := ⟨wt_mem 122 (by decide +kernel) rfl, wt_mem 1960 (by decide +kernel) rfl, by decide +kernel, by decide +kernel, by decide +kernel⟩
theorem inX12_areServed : Cond.instanceMethod yX12_areServed ∈ WT ∧ Cond.selects (yX12_areServed).cls yX12_areServed yX12_areServed ∈ WT := ⟨wt_mem 1959 (by decide +kernel) rfl, wt_mem 98 (by decide +kernel) rfl⟩
theorem okX12_shop : mOK yX12_shop cX12_shop 4 (some .int) 1 := ⟨wt_mem 122 (by decide +kernel) rfl, wt_mem 1956 (by decide +kernel) rfl, by decide +kernel, by decide +kernel, by decide +kernel⟩
theorem inX12_shop : Cond.instanceMethod yX12_shop ∈ WT ∧ Cond.selects (yX12_shop).cls yX12_shop yX12_shop ∈ WT := ⟨wt_mem 1954 (by decide +kernel) rfl, wt_mem 1955 (by decide +kernel) rfl⟩
theorem okX12_haveMeet : mOK yX12_haveMeet cX12_haveMeet 5 (some .boolean) 2 := ⟨wt_mem 122 (by decide +kernel) rfl, wt_mem 1976 (by decide +kernel) rfl, by decide +kernel, by decide +kernel, by decide +kernel⟩
theorem inX12_haveMeet : Cond.instanceMethod yX12_haveMeet ∈ WT ∧ Cond.selects (yX12_haveMeet).cls yX12_haveMeet yX12_haveMeet ∈ WT := ⟨wt_mem 1975 (by decide +kernel) rfl, wt_mem 101 (by decide +kernel) rfl⟩
theorem okX12_handedOn : mOK yX12_handedOn cX12_handedOn 7 (some .int) 2 := ⟨wt_mem 122 (by decide +kernel) rfl, wt_mem 1972 (by decide +kernel) rfl, by decide +kernel, by decide +kernel, by decide +kernel⟩
theorem inX12_handedOn : Cond.instanceMethod yX12_handedOn ∈ WT ∧ Cond.selects (yX12_handedOn).cls yX12_handedOn yX12_handedOn ∈ WT := ⟨wt_mem 1971 (by decide +kernel) rfl, wt_mem 100 (by decide +kernel) rfl⟩
theorem okX12_goLetters : mOK yX12_goLetters cX12_goLetters 3 (some .int) 1 := ⟨wt_mem 122 (by decide +kernel) rfl, wt_mem 1968 (by decide +kernel) rfl, by decide +kernel, by decide +kernel, by decide +kernel⟩
theorem inX12_goLetters : Cond.instanceMethod yX12_goLetters ∈ WT ∧ Cond.selects (yX12_goLetters).cls yX12_goLetters yX12_goLetters ∈ WT := ⟨wt_mem 1967 (by decide +kernel) rfl, wt_mem 99 (by decide +kernel) rfl⟩
theorem okX12_post : mOK yX12_post cX12_post 5 (some .int) 2 := ⟨wt_mem 122 (by decide +kernel) rfl, wt_mem 1964 (by decide +kernel) rfl, by decide +kernel, by decide +kernel, by decide +kernel⟩
theorem inX12_post : Cond.instanceMethod yX12_post ∈ WT ∧ Cond.selects (yX12_post).cls yX12_post yX12_post ∈ WT := ⟨wt_mem 1962 (by decide +kernel) rfl, wt_mem 1963 (by decide +kernel) rfl⟩
theorem okX12_spread : mOK yX12_spread cX12_spread 5 (some .int) 2 := ⟨wt_mem 122 (by decide +kernel) rfl, wt_mem 1980 (by decide +kernel) rfl, by decide +kernel, by decide +kernel, by decide +kernel⟩
theorem inX12_spread : Cond.instanceMethod yX12_spread ∈ WT ∧ Cond.selects (yX12_spread).cls yX12_spread yX12_spread ∈ WT := ⟨wt_mem 1978 (by decide +kernel) rfl, wt_mem 1979 (by decide +kernel) rfl⟩
theorem okX12_wake : mOK yX12_wake cX12_wake 7 (some .int) 3 := ⟨wt_mem 122 (by decide +kernel) rfl, wt_mem 1984 (by decide +kernel) rfl, by decide +kernel, by decide +kernel, by decide +kernel⟩
theorem inX12_wake : Cond.instanceMethod yX12_wake ∈ WT ∧ Cond.selects (yX12_wake).cls yX12_wake yX12_wake ∈ WT := ⟨wt_mem 1982 (by decide +kernel) rfl, wt_mem 1983 (by decide +kernel) rfl⟩
theorem okX12_divisor : mOK yX12_divisor cX12_divisor 5 (some .int) 2 := ⟨wt_mem 122 (by decide +kernel) rfl, wt_mem 1991 (by decide +kernel) rfl, by decide +kernel, by decide +kernel, by decide +kernel⟩
theorem stX12_divisor : Cond.static yX12_divisor ∈ WT := wt_mem 1990 (by decide +kernel) rfl
theorem okX12_odds : mOK yX12_odds cX12_odds 10 (some .int) 3 := ⟨wt_mem 122 (by decide +kernel) rfl, wt_mem 1988 (by decide +kernel) rfl, by decide +kernel, by decide +kernel, by decide +kernel⟩
theorem inX12_odds : Cond.instanceMethod yX12_odds ∈ WT ∧ Cond.selects (yX12_odds).cls yX12_odds yX12_odds ∈ WT := ⟨wt_mem 1986 (by decide +kernel) rfl, wt_mem 1987 (by decide +kernel) rfl⟩
theorem okX12_lies : mOK yX12_lies cX12_lies 2 (some .int) 1 := ⟨wt_mem 122 (by decide +kernel) rfl, wt_mem 1995 (by decide +kernel) rfl, by decide +kernel, by decide +kernel, by decide +kernel⟩
theorem inX12_lies : Cond.instanceMethod yX12_lies ∈ WT ∧ Cond.selects (yX12_lies).cls yX12_lies yX12_lies ∈ WT := ⟨wt_mem 1993 (by decide +kernel) rfl, wt_mem 1994 (by decide +kernel) rfl⟩
theorem okX12_isLitPlace : mOK yX12_isLitPlace cX12_isLitPlace 2 (some .boolean) 2 := ⟨wt_mem 122 (by decide +kernel) rfl, wt_mem 2002 (by decide +kernel) rfl, by decide +kernel, by decide +kernel, by decide +kernel⟩
theorem stX12_isLitPlace : Cond.static yX12_isLitPlace ∈ WT := wt_mem 2001 (by decide +kernel) rfl
theorem okX12_lit : mOK yX12_lit cX12_lit 4 (some .int) 3 := ⟨wt_mem 122 (by decide +kernel) rfl, wt_mem 1999 (by decide +kernel) rfl, by decide +kernel, by decide +kernel, by decide +kernel⟩
theorem inX12_lit : Cond.instanceMethod yX12_lit ∈ WT ∧ Cond.selects (yX12_lit).cls yX12_lit yX12_lit ∈ WT := ⟨wt_mem 1997 (by decide +kernel) rfl, wt_mem 1998 (by decide +kernel) rfl⟩
theorem okX12_untell : mOK yX12_untell cX12_untell 2 (some .boolean) 1 := ⟨wt_mem 122 (by decide +kernel) rfl, wt_mem 2006 (by decide +kernel) rfl, by decide +kernel, by decide +kernel, by decide +kernel⟩
theorem inX12_untell : Cond.instanceMethod yX12_untell ∈ WT ∧ Cond.selects (yX12_untell).cls yX12_untell yX12_untell ∈ WT := ⟨wt_mem 2004 (by decide +kernel) rfl, wt_mem 2005 (by decide +kernel) rfl⟩
theorem okX12_later : mOK yX12_later cX12_later 2 (some .int) 1 := ⟨wt_mem 122 (by decide +kernel) rfl, wt_mem 2010 (by decide +kernel) rfl, by decide +kernel, by decide +kernel, by decide +kernel⟩
theorem inX12_later : Cond.instanceMethod yX12_later ∈ WT ∧ Cond.selects (yX12_later).cls yX12_later yX12_later ∈ WT := ⟨wt_mem 2008 (by decide +kernel) rfl, wt_mem 2009 (by decide +kernel) rfl⟩
theorem okX12_lightsAt : mOK yX12_lightsAt cX12_lightsAt 5 (some .int) 2 := ⟨wt_mem 122 (by decide +kernel) rfl, wt_mem 2027 (by decide +kernel) rfl, by decide +kernel, by decide +kernel, by decide +kernel⟩
theorem inX12_lightsAt : Cond.instanceMethod yX12_lightsAt ∈ WT ∧ Cond.selects (yX12_lightsAt).cls yX12_lightsAt yX12_lightsAt ∈ WT := ⟨wt_mem 2026 (by decide +kernel) rfl, wt_mem 104 (by decide +kernel) rfl⟩
theorem okX12_isFit : mOK yX12_isFit cX12_isFit 5 (some .boolean) 2 := ⟨wt_mem 122 (by decide +kernel) rfl, wt_mem 2023 (by decide +kernel) rfl, by decide +kernel, by decide +kernel, by decide +kernel⟩
theorem inX12_isFit : Cond.instanceMethod yX12_isFit ∈ WT ∧ Cond.selects (yX12_isFit).cls yX12_isFit yX12_isFit ∈ WT := ⟨wt_mem 2022 (by decide +kernel) rfl, wt_mem 103 (by decide +kernel) rfl⟩
theorem okX12_layFits : mOK yX12_layFits cX12_layFits 6 (some .int) 2 := ⟨wt_mem 122 (by decide +kernel) rfl, wt_mem 2019 (by decide +kernel) rfl, by decide +kernel, by decide +kernel, by decide +kernel⟩
theorem inX12_layFits : Cond.instanceMethod yX12_layFits ∈ WT ∧ Cond.selects (yX12_layFits).cls yX12_layFits yX12_layFits ∈ WT := ⟨wt_mem 2018 (by decide +kernel) rfl, wt_mem 102 (by decide +kernel) rfl⟩
theorem okX12_fits : mOK yX12_fits cX12_fits 2 (some .int) 1 := ⟨wt_mem 122 (by decide +kernel) rfl, wt_mem 2015 (by decide +kernel) rfl, by decide +kernel, by decide +kernel, by decide +kernel⟩
theorem inX12_fits : Cond.instanceMethod yX12_fits ∈ WT ∧ Cond.selects (yX12_fits).cls yX12_fits yX12_fits ∈ WT := ⟨wt_mem 2013 (by decide +kernel) rfl, wt_mem 2014 (by decide +kernel) rfl⟩
theorem okX12_sure : mOK yX12_sure cX12_sure 4 (some .int) 2 := ⟨wt_mem 122 (by decide +kernel) rfl, wt_mem 2031 (by decide +kernel) rfl, by decide +kernel, by decide +kernel, by decide +kernel⟩
theorem inX12_sure : Cond.instanceMethod yX12_sure ∈ WT ∧ Cond.selects (yX12_sure).cls yX12_sure yX12_sure ∈ WT := ⟨wt_mem 2029 (by decide +kernel) rfl, wt_mem 2030 (by decide +kernel) rfl⟩
theorem okX12_ask : mOK yX12_ask cX12_ask 9 (some .int) 3 := ⟨wt_mem 122 (by decide +kernel) rfl, wt_mem 2035 (by decide +kernel) rfl, by decide +kernel, by decide +kernel, by decide +kernel⟩
theorem inX12_ask : Cond.instanceMethod yX12_ask ∈ WT ∧ Cond.selects (yX12_ask).cls yX12_ask yX12_ask ∈ WT := ⟨wt_mem 2033 (by decide +kernel) rfl, wt_mem 2034 (by decide +kernel) rfl⟩
theorem okX12_isBox : mOK yX12_isBox cX12_isBox 1 (some .boolean) 1 := ⟨wt_mem 122 (by decide +kernel) rfl, wt_mem 2042 (by decide +kernel) rfl, by decide +kernel, by decide +kernel, by decide +kernel⟩
theorem stX12_isBox : Cond.static yX12_isBox ∈ WT := wt_mem 2041 (by decide +kernel) rfl
theorem okX12_image : mOK yX12_image cX12_image 3 (some .int) 1 := ⟨wt_mem 122 (by decide +kernel) rfl, wt_mem 2039 (by decide +kernel) rfl, by decide +kernel, by decide +kernel, by decide +kernel⟩
theorem inX12_image : Cond.instanceMethod yX12_image ∈ WT ∧ Cond.selects (yX12_image).cls yX12_image yX12_image ∈ WT := ⟨wt_mem 2037 (by decide +kernel) rfl, wt_mem 2038 (by decide +kernel) rfl⟩
theorem okX12_back : mOK yX12_back cX12_back 3 (some .int) 1 := ⟨wt_mem 122 (by decide +kernel) rfl, wt_mem 2046 (by decide +kernel) rfl, by decide +kernel, by decide +kernel, by decide +kernel⟩
theorem inX12_back : Cond.instanceMethod yX12_back ∈ WT ∧ Cond.selects (yX12_back).cls yX12_back yX12_back ∈ WT := ⟨wt_mem 2044 (by decide +kernel) rfl, wt_mem 2045 (by decide +kernel) rfl⟩
theorem okX12_about : mOK yX12_about cX12_about 2 (some .int) 1 := ⟨wt_mem 122 (by decide +kernel) rfl, wt_mem 2050 (by decide +kernel) rfl, by decide +kernel, by decide +kernel, by decide +kernel⟩
theorem inX12_about : Cond.instanceMethod yX12_about ∈ WT ∧ Cond.selects (yX12_about).cls yX12_about yX12_about ∈ WT := ⟨wt_mem 2048 (by decide +kernel) rfl, wt_mem 2049 (by decide +kernel) rfl⟩
end
section
theorem dX12_four_0 : DD cX12_four 0 (.bipush 24) 2 2 := ⟨by decide +kernel, rfl⟩
theorem dX12_four_2 : DD cX12_four 2 (.istore_n 2) 1 3 := ⟨by decide +kernel, rfl⟩
theorem dX12_four_3 : DD cX12_four 3 (.iload_n 2) 1 4 := ⟨by decide +kernel, rfl⟩
theorem dX12_four_4 : DD cX12_four 4 (.ifCond .lt 35) 3 7 := ⟨by decide +kernel, rfl⟩
theorem dX12_four_7 : DD cX12_four 7 (.aload_n 0) 1 8 := ⟨by decide +kernel, rfl⟩
theorem dX12_four_8 : DD cX12_four 8 (.getfield 7) 3 11 := ⟨by decide +kernel, rfl⟩
theorem dX12_four_11 : DD cX12_four 11 (.aload_n 0) 1 12 := ⟨by decide +kernel, rfl⟩
theorem dX12_four_12 : DD cX12_four 12 (.getfield 157) 3 15 := ⟨by decide +kernel, rfl⟩
theorem dX12_four_15 : DD cX12_four 15 (.iload_n 1) 1 16 := ⟨by decide +kernel, rfl⟩
theorem dX12_four_16 : DD cX12_four 16 (.iload_n 2) 1 17 := ⟨by decide +kernel, rfl⟩
theorem dX12_four_17 : DD cX12_four 17 (.ishr) 1 18 := ⟨by decide +kernel, rfl⟩
theorem dX12_four_18 : DD cX12_four 18 (.sipush 255) 3 21 := ⟨by decide +kernel, rfl⟩
theorem dX12_four_21 : DD cX12_four 21 (.iand) 1 22 := ⟨by decide +kernel, rfl⟩
theorem dX12_four_22 : DD cX12_four 22 (.iastore) 1 23 := ⟨by decide +kernel, rfl⟩
theorem dX12_four_23 : DD cX12_four 23 (.aload_n 0) 1 24 := ⟨by decide +kernel, rfl⟩
theorem dX12_four_24 : DD cX12_four 24 (.dup) 1 25 := ⟨by decide +kernel, rfl⟩
theorem dX12_four_25 : DD cX12_four 25 (.getfield 157) 3 28 := ⟨by decide +kernel, rfl⟩
theorem dX12_four_28 : DD cX12_four 28 (.iconst 1) 1 29 := ⟨by decide +kernel, rfl⟩
theorem dX12_four_29 : DD cX12_four 29 (.iadd) 1 30 := ⟨by decide +kernel, rfl⟩
theorem dX12_four_30 : DD cX12_four 30 (.putfield 157) 3 33 := ⟨by decide +kernel, rfl⟩
theorem dX12_four_33 : DD cX12_four 33 (.iinc 2 (-8)) 3 36 := ⟨by decide +kernel, rfl⟩
theorem dX12_four_36 : DD cX12_four 36 (.goto (-33)) 3 39 := ⟨by decide +kernel, rfl⟩
theorem dX12_four_39 : DD cX12_four 39 (.return_) 1 40 := ⟨by decide +kernel, rfl⟩
def gX12_four : Nat → Int32 → Int32 → Mem → Option Mem
  | 0, _, _, _ => none
  | f + 1, x1, x2, m => (if x2 < 0 then (some m) else (wr m 1 1600 (m.1 0 1) ((x1 >>> (x2 &&& 31)) &&& (255 : Int32)) fun m2 => (pt (sI m2 0 1 ((m2.1 0 1) + (1 : Int32))) fun m3 => (gX12_four f x1 (x2 + (-8 : Int32)) m3))))
def fX12_four (m : Mem) (x1 : Int32) : Option Mem := (gX12_four 5000 x1 (24 : Int32) m)
set_option maxHeartbeats 4000000 in
set_option maxRecDepth 100000 in
theorem wX12_four {X : Cx} {G : Gt} (h : OkX (X, G, wM, nM) cX12_four RX12 3 none 1) : ∀ f : Nat, (∀ (x1 : Int32) (x2 : Int32) (m : Mem), JR (X, G, wM, nM) cvV m 3 [some (.ref (G.2.2 0)), some (.int x1), some (.int x2)] [] (gX12_four f x1 x2 m)) := by
  intro f
  induction f with
  | zero => exact (fun _ _ _ => j_none)
  | succ f ih =>
    intro x1 x2 m
    rw [gX12_four]
    refine j_iload_n h dX12_four_3 rfl ?_
    refine j_if_lt (tgt := 39) h dX12_four_4 (by decide) (fun c1 => ?_) (fun c1 => ?_)
    · exact j_vret h rfl dX12_four_39
    · refine j_aload_n h dX12_four_7 rfl ?_
      refine gM_0 h dX12_four_8 ?_
      refine j_aload_n h dX12_four_11 rfl ?_
      refine gM_1 h dX12_four_12 ?_
      refine j_iload_n h dX12_four_15 rfl ?_
      refine j_iload_n h dX12_four_16 rfl ?_
      refine j_ishr h dX12_four_17 ?_
      refine j_sipush (v := (255 : Int32)) h dX12_four_18 ksipush_255 ?_
      refine j_iand h dX12_four_21 ?_
      refine bM_1 h dX12_four_22 (fun m2 hm2 => ?_)
      refine j_aload_n h dX12_four_23 rfl ?_
      refine j_dup h dX12_four_24 rfl ?_
      refine gM_1 h dX12_four_25 ?_
      refine j_iconst (v := (1 : Int32)) h dX12_four_28 kiconst_1 ?_
      refine j_iadd h dX12_four_29 ?_
      refine pM_1 h dX12_four_30 (fun m3 hm3 => ?_)
      refine j_iinc (v := (x2 + (-8 : Int32))) h dX12_four_33 rfl (by rw [kiconst_m8]) rfl ?_
      refine j_goto (tgt := 3) h dX12_four_36 (by decide) ?_
      refine j_wk (ls' := [some (.ref (G.2.2 0)), some (.int x1), some (.int (x2 + (-8 : Int32)))]) (And.intro rfl (And.intro rfl (And.intro rfl trivial))) ?_
      exact ih x1 (x2 + (-8 : Int32)) m3
set_option maxHeartbeats 4000000 in
set_option maxRecDepth 100000 in
theorem kX12_four (l : Launch) (G : Gt) (hD : ∀ m, va_D (inA G nM) (wM G m)) (m : Mem) (x1 : Int32) : ∀ a, fX12_four m x1 = some a → Ct l G wM nM yX12_four cX12_four 3 none 1 [.ref (G.2.2 0), .int x1] m (cvV a) := by
  refine ct_of (own := RX12) (ls0 := [some (.ref (G.2.2 0)), some (.int x1), none]) (by decide) rfl rfl rfl (Nat.le_of_ble_eq_true rfl) hD (fun X h => ?_) l
  unfold fX12_four
  refine j_bipush (v := (24 : Int32)) h dX12_four_0 kbipush_24 ?_
  refine j_istore_n h dX12_four_2 rfl rfl ?_
  refine j_wk (ls' := [some (.ref (G.2.2 0)), some (.int x1), some (.int (24 : Int32))]) (And.intro rfl (And.intro rfl (And.intro rfl trivial))) ?_
  exact (wX12_four h 5000) x1 (24 : Int32) m
theorem dX12_feed_0 : DD cX12_feed 0 (.aload_n 0) 1 1 := ⟨by decide +kernel, rfl⟩
theorem dX12_feed_1 : DD cX12_feed 1 (.getfield 157) 3 4 := ⟨by decide +kernel, rfl⟩
theorem dX12_feed_4 : DD cX12_feed 4 (.bipush 20) 2 6 := ⟨by decide +kernel, rfl⟩
theorem dX12_feed_6 : DD cX12_feed 6 (.iadd) 1 7 := ⟨by decide +kernel, rfl⟩
theorem dX12_feed_7 : DD cX12_feed 7 (.sipush 1600) 3 10 := ⟨by decide +kernel, rfl⟩
theorem dX12_feed_10 : DD cX12_feed 10 (.if_icmp .le 5) 3 13 := ⟨by decide +kernel, rfl⟩
theorem dX12_feed_13 : DD cX12_feed 13 (.iconst (-1)) 1 14 := ⟨by decide +kernel, rfl⟩
theorem dX12_feed_14 : DD cX12_feed 14 (.ireturn) 1 15 := ⟨by decide +kernel, rfl⟩
theorem dX12_feed_15 : DD cX12_feed 15 (.aload_n 0) 1 16 := ⟨by decide +kernel, rfl⟩
theorem dX12_feed_16 : DD cX12_feed 16 (.iload_n 1) 1 17 := ⟨by decide +kernel, rfl⟩
theorem dX12_feed_17 : DD cX12_feed 17 (.invokevirtual 160) 3 20 := ⟨by decide +kernel, rfl⟩
theorem dX12_feed_20 : DD cX12_feed 20 (.aload_n 0) 1 21 := ⟨by decide +kernel, rfl⟩
theorem dX12_feed_21 : DD cX12_feed 21 (.iload_n 2) 1 22 := ⟨by decide +kernel, rfl⟩
theorem dX12_feed_22 : DD cX12_feed 22 (.invokevirtual 160) 3 25 := ⟨by decide +kernel, rfl⟩
theorem dX12_feed_25 : DD cX12_feed 25 (.aload_n 0) 1 26 := ⟨by decide +kernel, rfl⟩
theorem dX12_feed_26 : DD cX12_feed 26 (.iload_n 3) 1 27 := ⟨by decide +kernel, rfl⟩
theorem dX12_feed_27 : DD cX12_feed 27 (.invokevirtual 160) 3 30 := ⟨by decide +kernel, rfl⟩
theorem dX12_feed_30 : DD cX12_feed 30 (.aload_n 0) 1 31 := ⟨by decide +kernel, rfl⟩
theorem dX12_feed_31 : DD cX12_feed 31 (.iload 4) 2 33 := ⟨by decide +kernel, rfl⟩
theorem dX12_feed_33 : DD cX12_feed 33 (.invokevirtual 160) 3 36 := ⟨by decide +kernel, rfl⟩
theorem dX12_feed_36 : DD cX12_feed 36 (.aload_n 0) 1 37 := ⟨by decide +kernel, rfl⟩
theorem dX12_feed_37 : DD cX12_feed 37 (.iload 5) 2 39 := ⟨by decide +kernel, rfl⟩
theorem dX12_feed_39 : DD cX12_feed 39 (.invokevirtual 160) 3 42 := ⟨by decide +kernel, rfl⟩
theorem dX12_feed_42 : DD cX12_feed 42 (.aload_n 0) 1 43 := ⟨by decide +kernel, rfl⟩
theorem dX12_feed_43 : DD cX12_feed 43 (.getfield 157) 3 46 := ⟨by decide +kernel, rfl⟩
theorem dX12_feed_46 : DD cX12_feed 46 (.ireturn) 1 47 := ⟨by decide +kernel, rfl⟩
def fX12_feed (m : Mem) (x1 : Int32) (x2 : Int32) (x3 : Int32) (x4 : Int32) (x5 : Int32) : Option (Int32 × Mem) := (if ((m.1 0 1) + (20 : Int32)) ≤ (1600 : Int32) then (cV (fX12_four m x1) fun m3 => (cV (fX12_four m3 x2) fun m5 => (cV (fX12_four m5 x3) fun m7 => (cV (fX12_four m7 x4) fun m9 => (cV (fX12_four m9 x5) fun m11 => (some ((m11.1 0 1), m11))))))) else (some ((-1 : Int32), m)))
set_option maxHeartbeats 4000000 in
set_option maxRecDepth 100000 in
theorem kX12_feed (l : Launch) (G : Gt) (hD : ∀ m, va_D (inA G nM) (wM G m)) (m : Mem) (x1 : Int32) (x2 : Int32) (x3 : Int32) (x4 : Int32) (x5 : Int32) : ∀ a, fX12_feed m x1 x2 x3 x4 x5 = some a → Ct l G wM nM yX12_feed cX12_feed 6 (some .int) 2 [.ref (G.2.2 0), .int x1, .int x2, .int x3, .int x4, .int x5] m (cvI a) := by
  refine ct_of (own := RX12) (ls0 := [some (.ref (G.2.2 0)), some (.int x1), some (.int x2), some (.int x3), some (.int x4), some (.int x5)]) (by decide) rfl rfl rfl (Nat.le_of_ble_eq_true rfl) hD (fun X h => ?_) l
  unfold fX12_feed
  refine j_aload_n h dX12_feed_0 rfl ?_
  refine gM_1 h dX12_feed_1 ?_
  refine j_bipush (v := (20 : Int32)) h dX12_feed_4 kbipush_20 ?_
  refine j_iadd h dX12_feed_6 ?_
  refine j_sipush (v := (1600 : Int32)) h dX12_feed_7 ksipush_1600 ?_
  refine j_icmp_le (tgt := 15) h dX12_feed_10 (by decide) (fun c1 => ?_) (fun c1 => ?_)
  · refine j_aload_n h dX12_feed_15 rfl ?_
    refine j_iload_n h dX12_feed_16 rfl ?_
    refine j_callVV (q0 := 0) (ci := 12) h [.int x1] (kX12_four _ G h.2.2.2.2.2.2.2.2.2.2 m x1) okX12_four inX12_four ml12_160 rfl rfl rfl rfl (by decide) (by decide) (Nat.le_of_ble_eq_true rfl) rfl dX12_feed_17 (fun m3 hm3 => ?_)
    refine j_aload_n h dX12_feed_20 rfl ?_
    refine j_iload_n h dX12_feed_21 rfl ?_
    refine j_callVV (q0 := 0) (ci := 12) h [.int x2] (kX12_four _ G h.2.2.2.2.2.2.2.2.2.2 m3 x2) okX12_four inX12_four ml12_160 rfl rfl rfl rfl (by decide) (by decide) (Nat.le_of_ble_eq_true rfl) rfl dX12_feed_22 (fun m5 hm5 => ?_)
    refine j_aload_n h dX12_feed_25 rfl ?_
    refine j_iload_n h dX12_feed_26 rfl ?_
    refine j_callVV (q0 := 0) (ci := 12) h [.int x3] (kX12_four _ G h.2.2.2.2.2.2.2.2.2.2 m5 x3) okX12_four inX12_four ml12_160 rfl rfl rfl rfl (by decide) (by decide) (Nat.le_of_ble_eq_true rfl) rfl dX12_feed_27 (fun m7 hm7 => ?_)
    refine j_aload_n h dX12_feed_30 rfl ?_
    refine j_iload h dX12_feed_31 rfl ?_
    refine j_callVV (q0 := 0) (ci := 12) h [.int x4] (kX12_four _ G h.2.2.2.2.2.2.2.2.2.2 m7 x4) okX12_four inX12_four ml12_160 rfl rfl rfl rfl (by decide) (by decide) (Nat.le_of_ble_eq_true rfl) rfl dX12_feed_33 (fun m9 hm9 => ?_)
    refine j_aload_n h dX12_feed_36 rfl ?_
    refine j_iload h dX12_feed_37 rfl ?_
    refine j_callVV (q0 := 0) (ci := 12) h [.int x5] (kX12_four _ G h.2.2.2.2.2.2.2.2.2.2 m9 x5) okX12_four inX12_four ml12_160 rfl rfl rfl rfl (by decide) (by decide) (Nat.le_of_ble_eq_true rfl) rfl dX12_feed_39 (fun m11 hm11 => ?_)
    refine j_aload_n h dX12_feed_42 rfl ?_
    refine gM_1 h dX12_feed_43 ?_
    exact j_iret h rfl dX12_feed_46
  · refine j_iconst (v := (-1 : Int32)) h dX12_feed_13 kiconst_m1 ?_
    exact j_iret h rfl dX12_feed_14
theorem dX12_end_0 : DD cX12_end 0 (.iload_n 1) 1 1 := ⟨by decide +kernel, rfl⟩
theorem dX12_end_1 : DD cX12_end 1 (.ifCond .lt 11) 3 4 := ⟨by decide +kernel, rfl⟩
theorem dX12_end_4 : DD cX12_end 4 (.iload_n 1) 1 5 := ⟨by decide +kernel, rfl⟩
theorem dX12_end_5 : DD cX12_end 5 (.aload_n 0) 1 6 := ⟨by decide +kernel, rfl⟩
theorem dX12_end_6 : DD cX12_end 6 (.getfield 157) 3 9 := ⟨by decide +kernel, rfl⟩
theorem dX12_end_9 : DD cX12_end 9 (.if_icmp .le 5) 3 12 := ⟨by decide +kernel, rfl⟩
theorem dX12_end_12 : DD cX12_end 12 (.iconst (-1)) 1 13 := ⟨by decide +kernel, rfl⟩
theorem dX12_end_13 : DD cX12_end 13 (.ireturn) 1 14 := ⟨by decide +kernel, rfl⟩
theorem dX12_end_14 : DD cX12_end 14 (.aload_n 0) 1 15 := ⟨by decide +kernel, rfl⟩
theorem dX12_end_15 : DD cX12_end 15 (.iload_n 1) 1 16 := ⟨by decide +kernel, rfl⟩
theorem dX12_end_16 : DD cX12_end 16 (.putfield 157) 3 19 := ⟨by decide +kernel, rfl⟩
theorem dX12_end_19 : DD cX12_end 19 (.iload_n 1) 1 20 := ⟨by decide +kernel, rfl⟩
theorem dX12_end_20 : DD cX12_end 20 (.ireturn) 1 21 := ⟨by decide +kernel, rfl⟩
def fX12_end (m : Mem) (x1 : Int32) : Option (Int32 × Mem) := (if x1 < 0 then (some ((-1 : Int32), m)) else (if x1 ≤ (m.1 0 1) then (pt (sI m 0 1 x1) fun m3 => (some (x1, m3))) else (some ((-1 : Int32), m))))
set_option maxHeartbeats 4000000 in
set_option maxRecDepth 100000 in
theorem kX12_end (l : Launch) (G : Gt) (hD : ∀ m, va_D (inA G nM) (wM G m)) (m : Mem) (x1 : Int32) : ∀ a, fX12_end m x1 = some a → Ct l G wM nM yX12_end cX12_end 2 (some .int) 1 [.ref (G.2.2 0), .int x1] m (cvI a) := by
  refine ct_of (own := RX12) (ls0 := [some (.ref (G.2.2 0)), some (.int x1)]) (by decide) rfl rfl rfl (Nat.le_of_ble_eq_true rfl) hD (fun X h => ?_) l
  unfold fX12_end
  refine j_iload_n h dX12_end_0 rfl ?_
  refine j_if_lt (tgt := 12) h dX12_end_1 (by decide) (fun c1 => ?_) (fun c1 => ?_)
  · refine j_iconst (v := (-1 : Int32)) h dX12_end_12 kiconst_m1 ?_
    exact j_iret h rfl dX12_end_13
  · refine j_iload_n h dX12_end_4 rfl ?_
    refine j_aload_n h dX12_end_5 rfl ?_
    refine gM_1 h dX12_end_6 ?_
    refine j_icmp_le (tgt := 14) h dX12_end_9 (by decide) (fun c2 => ?_) (fun c2 => ?_)
    · refine j_aload_n h dX12_end_14 rfl ?_
      refine j_iload_n h dX12_end_15 rfl ?_
      refine pM_1 h dX12_end_16 (fun m3 hm3 => ?_)
      refine j_iload_n h dX12_end_19 rfl ?_
      exact j_iret h rfl dX12_end_20
    · refine j_iconst (v := (-1 : Int32)) h dX12_end_12 kiconst_m1 ?_
      exact j_iret h rfl dX12_end_13
theorem dX12_here_0 : DD cX12_here 0 (.aload_n 0) 1 1 := ⟨by decide +kernel, rfl⟩
theorem dX12_here_1 : DD cX12_here 1 (.getfield 164) 3 4 := ⟨by decide +kernel, rfl⟩
theorem dX12_here_4 : DD cX12_here 4 (.iload_n 1) 1 5 := ⟨by decide +kernel, rfl⟩
theorem dX12_here_5 : DD cX12_here 5 (.iadd) 1 6 := ⟨by decide +kernel, rfl⟩
theorem dX12_here_6 : DD cX12_here 6 (.aload_n 0) 1 7 := ⟨by decide +kernel, rfl⟩
theorem dX12_here_7 : DD cX12_here 7 (.getfield 167) 3 10 := ⟨by decide +kernel, rfl⟩
theorem dX12_here_10 : DD cX12_here 10 (.if_icmp .ge 17) 3 13 := ⟨by decide +kernel, rfl⟩
theorem dX12_here_13 : DD cX12_here 13 (.aload_n 0) 1 14 := ⟨by decide +kernel, rfl⟩
theorem dX12_here_14 : DD cX12_here 14 (.getfield 7) 3 17 := ⟨by decide +kernel, rfl⟩
theorem dX12_here_17 : DD cX12_here 17 (.aload_n 0) 1 18 := ⟨by decide +kernel, rfl⟩
theorem dX12_here_18 : DD cX12_here 18 (.getfield 164) 3 21 := ⟨by decide +kernel, rfl⟩
theorem dX12_here_21 : DD cX12_here 21 (.iload_n 1) 1 22 := ⟨by decide +kernel, rfl⟩
theorem dX12_here_22 : DD cX12_here 22 (.iadd) 1 23 := ⟨by decide +kernel, rfl⟩
theorem dX12_here_23 : DD cX12_here 23 (.iaload) 1 24 := ⟨by decide +kernel, rfl⟩
theorem dX12_here_24 : DD cX12_here 24 (.goto 4) 3 27 := ⟨by decide +kernel, rfl⟩
theorem dX12_here_27 : DD cX12_here 27 (.iconst (-1)) 1 28 := ⟨by decide +kernel, rfl⟩
theorem dX12_here_28 : DD cX12_here 28 (.ireturn) 1 29 := ⟨by decide +kernel, rfl⟩
def fX12_here (m : Mem) (x1 : Int32) : Option Int32 := (if (m.1 0 5) ≤ ((m.1 0 4) + x1) then (some (-1 : Int32)) else (rd (m.1 1) 1600 ((m.1 0 4) + x1) fun v2 => (some v2)))
set_option maxHeartbeats 4000000 in
set_option maxRecDepth 100000 in
theorem kX12_here (l : Launch) (G : Gt) (hD : ∀ m, va_D (inA G nM) (wM G m)) (m : Mem) (x1 : Int32) : ∀ a, fX12_here m x1 = some a → Ct l G wM nM yX12_here cX12_here 2 (some .int) 1 [.ref (G.2.2 0), .int x1] m ((cvP m) a) := by
  refine ct_of (own := RX12) (ls0 := [some (.ref (G.2.2 0)), some (.int x1)]) (by decide) rfl rfl rfl (Nat.le_of_ble_eq_true rfl) hD (fun X h => ?_) l
  unfold fX12_here
  refine j_aload_n h dX12_here_0 rfl ?_
  refine gM_4 h dX12_here_1 ?_
  refine j_iload_n h dX12_here_4 rfl ?_
  refine j_iadd h dX12_here_5 ?_
  refine j_aload_n h dX12_here_6 rfl ?_
  refine gM_5 h dX12_here_7 ?_
  refine j_icmp_ge (tgt := 27) h dX12_here_10 (by decide) (fun c1 => ?_) (fun c1 => ?_)
  · refine j_iconst (v := (-1 : Int32)) h dX12_here_27 kiconst_m1 ?_
    exact j_iret h rfl dX12_here_28
  · refine j_aload_n h dX12_here_13 rfl ?_
    refine gM_0 h dX12_here_14 ?_
    refine j_aload_n h dX12_here_17 rfl ?_
    refine gM_4 h dX12_here_18 ?_
    refine j_iload_n h dX12_here_21 rfl ?_
    refine j_iadd h dX12_here_22 ?_
    refine aM_1 h dX12_here_23 (fun v2 hv2 => ?_)
    refine j_goto (tgt := 28) h dX12_here_24 (by decide) ?_
    exact j_iret h rfl dX12_here_28
theorem dX12_isLetter_0 : DD cX12_isLetter 0 (.iload_n 0) 1 1 := ⟨by decide +kernel, rfl⟩
theorem dX12_isLetter_1 : DD cX12_isLetter 1 (.bipush 97) 2 3 := ⟨by decide +kernel, rfl⟩
theorem dX12_isLetter_3 : DD cX12_isLetter 3 (.if_icmp .lt 13) 3 6 := ⟨by decide +kernel, rfl⟩
theorem dX12_isLetter_6 : DD cX12_isLetter 6 (.iload_n 0) 1 7 := ⟨by decide +kernel, rfl⟩
theorem dX12_isLetter_7 : DD cX12_isLetter 7 (.bipush 122) 2 9 := ⟨by decide +kernel, rfl⟩
theorem dX12_isLetter_9 : DD cX12_isLetter 9 (.if_icmp .gt 7) 3 12 := ⟨by decide +kernel, rfl⟩
theorem dX12_isLetter_12 : DD cX12_isLetter 12 (.iconst 1) 1 13 := ⟨by decide +kernel, rfl⟩
theorem dX12_isLetter_13 : DD cX12_isLetter 13 (.goto 4) 3 16 := ⟨by decide +kernel, rfl⟩
theorem dX12_isLetter_16 : DD cX12_isLetter 16 (.iconst 0) 1 17 := ⟨by decide +kernel, rfl⟩
theorem dX12_isLetter_17 : DD cX12_isLetter 17 (.ireturn) 1 18 := ⟨by decide +kernel, rfl⟩
def fX12_isLetter (x0 : Int32) : Option Int32 := (if x0 < (97 : Int32) then (some (0 : Int32)) else (if (122 : Int32) < x0 then (some (0 : Int32)) else (some (1 : Int32))))
set_option maxHeartbeats 4000000 in
set_option maxRecDepth 100000 in
theorem kX12_isLetter (l : Launch) (G : Gt) (hD : ∀ m, va_D (inA G nM) (wM G m)) (m : Mem) (x0 : Int32) : ∀ a, fX12_isLetter x0 = some a → Ct l G wM nM yX12_isLetter cX12_isLetter 1 (some .boolean) 1 [.int x0] m ((cvP m) a) := by
  refine ct_of (own := RX12) (ls0 := [some (.int x0)]) (by decide) rfl rfl rfl (Nat.le_of_ble_eq_true rfl) hD (fun X h => ?_) l
  unfold fX12_isLetter
  refine j_iload_n h dX12_isLetter_0 rfl ?_
  refine j_bipush (v := (97 : Int32)) h dX12_isLetter_1 kbipush_97 ?_
  refine j_icmp_lt (tgt := 16) h dX12_isLetter_3 (by decide) (fun c1 => ?_) (fun c1 => ?_)
  · refine j_iconst (v := (0 : Int32)) h dX12_isLetter_16 kiconst_0 ?_
    exact j_zretB h rfl rfl dX12_isLetter_17
  · refine j_iload_n h dX12_isLetter_6 rfl ?_
    refine j_bipush (v := (122 : Int32)) h dX12_isLetter_7 kbipush_122 ?_
    refine j_icmp_gt (tgt := 16) h dX12_isLetter_9 (by decide) (fun c2 => ?_) (fun c2 => ?_)
    · refine j_iconst (v := (0 : Int32)) h dX12_isLetter_16 kiconst_0 ?_
      exact j_zretB h rfl rfl dX12_isLetter_17
    · refine j_iconst (v := (1 : Int32)) h dX12_isLetter_12 kiconst_1 ?_
      refine j_goto (tgt := 17) h dX12_isLetter_13 (by decide) ?_
      exact j_zretB h rfl rfl dX12_isLetter_17
theorem dX12_isDigit_0 : DD cX12_isDigit 0 (.iload_n 0) 1 1 := ⟨by decide +kernel, rfl⟩
theorem dX12_isDigit_1 : DD cX12_isDigit 1 (.bipush 48) 2 3 := ⟨by decide +kernel, rfl⟩
theorem dX12_isDigit_3 : DD cX12_isDigit 3 (.if_icmp .lt 13) 3 6 := ⟨by decide +kernel, rfl⟩
theorem dX12_isDigit_6 : DD cX12_isDigit 6 (.iload_n 0) 1 7 := ⟨by decide +kernel, rfl⟩
theorem dX12_isDigit_7 : DD cX12_isDigit 7 (.bipush 57) 2 9 := ⟨by decide +kernel, rfl⟩
theorem dX12_isDigit_9 : DD cX12_isDigit 9 (.if_icmp .gt 7) 3 12 := ⟨by decide +kernel, rfl⟩
theorem dX12_isDigit_12 : DD cX12_isDigit 12 (.iconst 1) 1 13 := ⟨by decide +kernel, rfl⟩
theorem dX12_isDigit_13 : DD cX12_isDigit 13 (.goto 4) 3 16 := ⟨by decide +kernel, rfl⟩
theorem dX12_isDigit_16 : DD cX12_isDigit 16 (.iconst 0) 1 17 := ⟨by decide +kernel, rfl⟩
theorem dX12_isDigit_17 : DD cX12_isDigit 17 (.ireturn) 1 18 := ⟨by decide +kernel, rfl⟩
def fX12_isDigit (x0 : Int32) : Option Int32 := (if x0 < (48 : Int32) then (some (0 : Int32)) else (if (57 : Int32) < x0 then (some (0 : Int32)) else (some (1 : Int32))))
set_option maxHeartbeats 4000000 in
set_option maxRecDepth 100000 in
theorem kX12_isDigit (l : Launch) (G : Gt) (hD : ∀ m, va_D (inA G nM) (wM G m)) (m : Mem) (x0 : Int32) : ∀ a, fX12_isDigit x0 = some a → Ct l G wM nM yX12_isDigit cX12_isDigit 1 (some .boolean) 1 [.int x0] m ((cvP m) a) := by
  refine ct_of (own := RX12) (ls0 := [some (.int x0)]) (by decide) rfl rfl rfl (Nat.le_of_ble_eq_true rfl) hD (fun X h => ?_) l
  unfold fX12_isDigit
  refine j_iload_n h dX12_isDigit_0 rfl ?_
  refine j_bipush (v := (48 : Int32)) h dX12_isDigit_1 kbipush_48 ?_
  refine j_icmp_lt (tgt := 16) h dX12_isDigit_3 (by decide) (fun c1 => ?_) (fun c1 => ?_)
  · refine j_iconst (v := (0 : Int32)) h dX12_isDigit_16 kiconst_0 ?_
    exact j_zretB h rfl rfl dX12_isDigit_17
  · refine j_iload_n h dX12_isDigit_6 rfl ?_
    refine j_bipush (v := (57 : Int32)) h dX12_isDigit_7 kbipush_57 ?_
    refine j_icmp_gt (tgt := 16) h dX12_isDigit_9 (by decide) (fun c2 => ?_) (fun c2 => ?_)
    · refine j_iconst (v := (0 : Int32)) h dX12_isDigit_16 kiconst_0 ?_
      exact j_zretB h rfl rfl dX12_isDigit_17
    · refine j_iconst (v := (1 : Int32)) h dX12_isDigit_12 kiconst_1 ?_
      refine j_goto (tgt := 17) h dX12_isDigit_13 (by decide) ?_
      exact j_zretB h rfl rfl dX12_isDigit_17
theorem dX12_isSign_0 : DD cX12_isSign 0 (.iload_n 0) 1 1 := ⟨by decide +kernel, rfl⟩
theorem dX12_isSign_1 : DD cX12_isSign 1 (.bipush 59) 2 3 := ⟨by decide +kernel, rfl⟩
theorem dX12_isSign_3 : DD cX12_isSign 3 (.if_icmp .eq 63) 3 6 := ⟨by decide +kernel, rfl⟩
theorem dX12_isSign_6 : DD cX12_isSign 6 (.iload_n 0) 1 7 := ⟨by decide +kernel, rfl⟩
theorem dX12_isSign_7 : DD cX12_isSign 7 (.bipush 40) 2 9 := ⟨by decide +kernel, rfl⟩
theorem dX12_isSign_9 : DD cX12_isSign 9 (.if_icmp .eq 57) 3 12 := ⟨by decide +kernel, rfl⟩
theorem dX12_isSign_12 : DD cX12_isSign 12 (.iload_n 0) 1 13 := ⟨by decide +kernel, rfl⟩
theorem dX12_isSign_13 : DD cX12_isSign 13 (.bipush 41) 2 15 := ⟨by decide +kernel, rfl⟩
theorem dX12_isSign_15 : DD cX12_isSign 15 (.if_icmp .eq 51) 3 18 := ⟨by decide +kernel, rfl⟩
theorem dX12_isSign_18 : DD cX12_isSign 18 (.iload_n 0) 1 19 := ⟨by decide +kernel, rfl⟩
theorem dX12_isSign_19 : DD cX12_isSign 19 (.bipush 60) 2 21 := ⟨by decide +kernel, rfl⟩
theorem dX12_isSign_21 : DD cX12_isSign 21 (.if_icmp .eq 45) 3 24 := ⟨by decide +kernel, rfl⟩
theorem dX12_isSign_24 : DD cX12_isSign 24 (.iload_n 0) 1 25 := ⟨by decide +kernel, rfl⟩
theorem dX12_isSign_25 : DD cX12_isSign 25 (.bipush 62) 2 27 := ⟨by decide +kernel, rfl⟩
theorem dX12_isSign_27 : DD cX12_isSign 27 (.if_icmp .eq 39) 3 30 := ⟨by decide +kernel, rfl⟩
theorem dX12_isSign_30 : DD cX12_isSign 30 (.iload_n 0) 1 31 := ⟨by decide +kernel, rfl⟩
theorem dX12_isSign_31 : DD cX12_isSign 31 (.bipush 61) 2 33 := ⟨by decide +kernel, rfl⟩
theorem dX12_isSign_33 : DD cX12_isSign 33 (.if_icmp .eq 33) 3 36 := ⟨by decide +kernel, rfl⟩
theorem dX12_isSign_36 : DD cX12_isSign 36 (.iload_n 0) 1 37 := ⟨by decide +kernel, rfl⟩
theorem dX12_isSign_37 : DD cX12_isSign 37 (.bipush 43) 2 39 := ⟨by decide +kernel, rfl⟩
theorem dX12_isSign_39 : DD cX12_isSign 39 (.if_icmp .eq 27) 3 42 := ⟨by decide +kernel, rfl⟩
theorem dX12_isSign_42 : DD cX12_isSign 42 (.iload_n 0) 1 43 := ⟨by decide +kernel, rfl⟩
theorem dX12_isSign_43 : DD cX12_isSign 43 (.bipush 45) 2 45 := ⟨by decide +kernel, rfl⟩
theorem dX12_isSign_45 : DD cX12_isSign 45 (.if_icmp .eq 21) 3 48 := ⟨by decide +kernel, rfl⟩
theorem dX12_isSign_48 : DD cX12_isSign 48 (.iload_n 0) 1 49 := ⟨by decide +kernel, rfl⟩
theorem dX12_isSign_49 : DD cX12_isSign 49 (.bipush 42) 2 51 := ⟨by decide +kernel, rfl⟩
theorem dX12_isSign_51 : DD cX12_isSign 51 (.if_icmp .eq 15) 3 54 := ⟨by decide +kernel, rfl⟩
theorem dX12_isSign_54 : DD cX12_isSign 54 (.iload_n 0) 1 55 := ⟨by decide +kernel, rfl⟩
theorem dX12_isSign_55 : DD cX12_isSign 55 (.bipush 47) 2 57 := ⟨by decide +kernel, rfl⟩
theorem dX12_isSign_57 : DD cX12_isSign 57 (.if_icmp .eq 9) 3 60 := ⟨by decide +kernel, rfl⟩
theorem dX12_isSign_60 : DD cX12_isSign 60 (.iload_n 0) 1 61 := ⟨by decide +kernel, rfl⟩
theorem dX12_isSign_61 : DD cX12_isSign 61 (.bipush 37) 2 63 := ⟨by decide +kernel, rfl⟩
theorem dX12_isSign_63 : DD cX12_isSign 63 (.if_icmp .ne 7) 3 66 := ⟨by decide +kernel, rfl⟩
theorem dX12_isSign_66 : DD cX12_isSign 66 (.iconst 1) 1 67 := ⟨by decide +kernel, rfl⟩
theorem dX12_isSign_67 : DD cX12_isSign 67 (.goto 4) 3 70 := ⟨by decide +kernel, rfl⟩
theorem dX12_isSign_70 : DD cX12_isSign 70 (.iconst 0) 1 71 := ⟨by decide +kernel, rfl⟩
theorem dX12_isSign_71 : DD cX12_isSign 71 (.ireturn) 1 72 := ⟨by decide +kernel, rfl⟩
def fX12_isSign (x0 : Int32) : Option Int32 := (if x0 = (59 : Int32) then (some (1 : Int32)) else (if x0 = (40 : Int32) then (some (1 : Int32)) else (if x0 = (41 : Int32) then (some (1 : Int32)) else (if x0 = (60 : Int32) then (some (1 : Int32)) else (if x0 = (62 : Int32) then (some (1 : Int32)) else (if x0 = (61 : Int32) then (some (1 : Int32)) else (if x0 = (43 : Int32) then (some (1 : Int32)) else (if x0 = (45 : Int32) then (some (1 : Int32)) else (if x0 = (42 : Int32) then (some (1 : Int32)) else (if x0 = (47 : Int32) then (some (1 : Int32)) else (if x0 = (37 : Int32) then (some (1 : Int32)) else (some (0 : Int32)))))))))))))
set_option maxHeartbeats 4000000 in
set_option maxRecDepth 100000 in
theorem kX12_isSign (l : Launch) (G : Gt) (hD : ∀ m, va_D (inA G nM) (wM G m)) (m : Mem) (x0 : Int32) : ∀ a, fX12_isSign x0 = some a → Ct l G wM nM yX12_isSign cX12_isSign 1 (some .boolean) 1 [.int x0] m ((cvP m) a) := by
  refine ct_of (own := RX12) (ls0 := [some (.int x0)]) (by decide) rfl rfl rfl (Nat.le_of_ble_eq_true rfl) hD (fun X h => ?_) l
  unfold fX12_isSign
  refine j_iload_n h dX12_isSign_0 rfl ?_
  refine j_bipush (v := (59 : Int32)) h dX12_isSign_1 kbipush_59 ?_
  refine j_icmp_eq (tgt := 66) h dX12_isSign_3 (by decide) (fun c1 => ?_) (fun c1 => ?_)
  · refine j_iconst (v := (1 : Int32)) h dX12_isSign_66 kiconst_1 ?_
    refine j_goto (tgt := 71) h dX12_isSign_67 (by decide) ?_
    exact j_zretB h rfl rfl dX12_isSign_71
  · refine j_iload_n h dX12_isSign_6 rfl ?_
    refine j_bipush (v := (40 : Int32)) h dX12_isSign_7 kbipush_40 ?_
    refine j_icmp_eq (tgt := 66) h dX12_isSign_9 (by decide) (fun c2 => ?_) (fun c2 => ?_)
    · refine j_iconst (v := (1 : Int32)) h dX12_isSign_66 kiconst_1 ?_
      refine j_goto (tgt := 71) h dX12_isSign_67 (by decide) ?_
      exact j_zretB h rfl rfl dX12_isSign_71
    · refine j_iload_n h dX12_isSign_12 rfl ?_
      refine j_bipush (v := (41 : Int32)) h dX12_isSign_13 kbipush_41 ?_
      refine j_icmp_eq (tgt := 66) h dX12_isSign_15 (by decide) (fun c3 => ?_) (fun c3 => ?_)
      · refine j_iconst (v := (1 : Int32)) h dX12_isSign_66 kiconst_1 ?_
        refine j_goto (tgt := 71) h dX12_isSign_67 (by decide) ?_
        exact j_zretB h rfl rfl dX12_isSign_71
      · refine j_iload_n h dX12_isSign_18 rfl ?_
        refine j_bipush (v := (60 : Int32)) h dX12_isSign_19 kbipush_60 ?_
        refine j_icmp_eq (tgt := 66) h dX12_isSign_21 (by decide) (fun c4 => ?_) (fun c4 => ?_)
        · refine j_iconst (v := (1 : Int32)) h dX12_isSign_66 kiconst_1 ?_
          refine j_goto (tgt := 71) h dX12_isSign_67 (by decide) ?_
          exact j_zretB h rfl rfl dX12_isSign_71
        · refine j_iload_n h dX12_isSign_24 rfl ?_
          refine j_bipush (v := (62 : Int32)) h dX12_isSign_25 kbipush_62 ?_
          refine j_icmp_eq (tgt := 66) h dX12_isSign_27 (by decide) (fun c5 => ?_) (fun c5 => ?_)
          · refine j_iconst (v := (1 : Int32)) h dX12_isSign_66 kiconst_1 ?_
            refine j_goto (tgt := 71) h dX12_isSign_67 (by decide) ?_
            exact j_zretB h rfl rfl dX12_isSign_71
          · refine j_iload_n h dX12_isSign_30 rfl ?_
            refine j_bipush (v := (61 : Int32)) h dX12_isSign_31 kbipush_61 ?_
            refine j_icmp_eq (tgt := 66) h dX12_isSign_33 (by decide) (fun c6 => ?_) (fun c6 => ?_)
            · refine j_iconst (v := (1 : Int32)) h dX12_isSign_66 kiconst_1 ?_
              refine j_goto (tgt := 71) h dX12_isSign_67 (by decide) ?_
              exact j_zretB h rfl rfl dX12_isSign_71
            · refine j_iload_n h dX12_isSign_36 rfl ?_
              refine j_bipush (v := (43 : Int32)) h dX12_isSign_37 kbipush_43 ?_
              refine j_icmp_eq (tgt := 66) h dX12_isSign_39 (by decide) (fun c7 => ?_) (fun c7 => ?_)
              · refine j_iconst (v := (1 : Int32)) h dX12_isSign_66 kiconst_1 ?_
                refine j_goto (tgt := 71) h dX12_isSign_67 (by decide) ?_
                exact j_zretB h rfl rfl dX12_isSign_71
              · refine j_iload_n h dX12_isSign_42 rfl ?_
                refine j_bipush (v := (45 : Int32)) h dX12_isSign_43 kbipush_45 ?_
                refine j_icmp_eq (tgt := 66) h dX12_isSign_45 (by decide) (fun c8 => ?_) (fun c8 => ?_)
                · refine j_iconst (v := (1 : Int32)) h dX12_isSign_66 kiconst_1 ?_
                  refine j_goto (tgt := 71) h dX12_isSign_67 (by decide) ?_
                  exact j_zretB h rfl rfl dX12_isSign_71
                · refine j_iload_n h dX12_isSign_48 rfl ?_
                  refine j_bipush (v := (42 : Int32)) h dX12_isSign_49 kbipush_42 ?_
                  refine j_icmp_eq (tgt := 66) h dX12_isSign_51 (by decide) (fun c9 => ?_) (fun c9 => ?_)
                  · refine j_iconst (v := (1 : Int32)) h dX12_isSign_66 kiconst_1 ?_
                    refine j_goto (tgt := 71) h dX12_isSign_67 (by decide) ?_
                    exact j_zretB h rfl rfl dX12_isSign_71
                  · refine j_iload_n h dX12_isSign_54 rfl ?_
                    refine j_bipush (v := (47 : Int32)) h dX12_isSign_55 kbipush_47 ?_
                    refine j_icmp_eq (tgt := 66) h dX12_isSign_57 (by decide) (fun c10 => ?_) (fun c10 => ?_)
                    · refine j_iconst (v := (1 : Int32)) h dX12_isSign_66 kiconst_1 ?_
                      refine j_goto (tgt := 71) h dX12_isSign_67 (by decide) ?_
                      exact j_zretB h rfl rfl dX12_isSign_71
                    · refine j_iload_n h dX12_isSign_60 rfl ?_
                      refine j_bipush (v := (37 : Int32)) h dX12_isSign_61 kbipush_37 ?_
                      refine j_icmp_ne (tgt := 70) h dX12_isSign_63 (by decide) (fun c11 => ?_) (fun c11 => ?_)
                      · refine j_iconst (v := (0 : Int32)) h dX12_isSign_70 kiconst_0 ?_
                        exact j_zretB h rfl rfl dX12_isSign_71
                      · refine j_iconst (v := (1 : Int32)) h dX12_isSign_66 kiconst_1 ?_
                        refine j_goto (tgt := 71) h dX12_isSign_67 (by decide) ?_
                        exact j_zretB h rfl rfl dX12_isSign_71
theorem dX12_token_0 : DD cX12_token 0 (.aload_n 0) 1 1 := ⟨by decide +kernel, rfl⟩
theorem dX12_token_1 : DD cX12_token 1 (.iconst 0) 1 2 := ⟨by decide +kernel, rfl⟩
theorem dX12_token_2 : DD cX12_token 2 (.invokevirtual 170) 3 5 := ⟨by decide +kernel, rfl⟩
theorem dX12_token_5 : DD cX12_token 5 (.bipush 32) 2 7 := ⟨by decide +kernel, rfl⟩
theorem dX12_token_7 : DD cX12_token 7 (.if_icmp .eq 13) 3 10 := ⟨by decide +kernel, rfl⟩
theorem dX12_token_10 : DD cX12_token 10 (.aload_n 0) 1 11 := ⟨by decide +kernel, rfl⟩
theorem dX12_token_11 : DD cX12_token 11 (.iconst 0) 1 12 := ⟨by decide +kernel, rfl⟩
theorem dX12_token_12 : DD cX12_token 12 (.invokevirtual 170) 3 15 := ⟨by decide +kernel, rfl⟩
theorem dX12_token_15 : DD cX12_token 15 (.bipush 10) 2 17 := ⟨by decide +kernel, rfl⟩
theorem dX12_token_17 : DD cX12_token 17 (.if_icmp .ne 16) 3 20 := ⟨by decide +kernel, rfl⟩
theorem dX12_token_20 : DD cX12_token 20 (.aload_n 0) 1 21 := ⟨by decide +kernel, rfl⟩
theorem dX12_token_21 : DD cX12_token 21 (.dup) 1 22 := ⟨by decide +kernel, rfl⟩
theorem dX12_token_22 : DD cX12_token 22 (.getfield 164) 3 25 := ⟨by decide +kernel, rfl⟩
theorem dX12_token_25 : DD cX12_token 25 (.iconst 1) 1 26 := ⟨by decide +kernel, rfl⟩
theorem dX12_token_26 : DD cX12_token 26 (.iadd) 1 27 := ⟨by decide +kernel, rfl⟩
theorem dX12_token_27 : DD cX12_token 27 (.putfield 164) 3 30 := ⟨by decide +kernel, rfl⟩
theorem dX12_token_30 : DD cX12_token 30 (.goto (-30)) 3 33 := ⟨by decide +kernel, rfl⟩
theorem dX12_token_33 : DD cX12_token 33 (.aload_n 0) 1 34 := ⟨by decide +kernel, rfl⟩
theorem dX12_token_34 : DD cX12_token 34 (.aload_n 0) 1 35 := ⟨by decide +kernel, rfl⟩
theorem dX12_token_35 : DD cX12_token 35 (.getfield 164) 3 38 := ⟨by decide +kernel, rfl⟩
theorem dX12_token_38 : DD cX12_token 38 (.putfield 174) 3 41 := ⟨by decide +kernel, rfl⟩
theorem dX12_token_41 : DD cX12_token 41 (.aload_n 0) 1 42 := ⟨by decide +kernel, rfl⟩
theorem dX12_token_42 : DD cX12_token 42 (.iconst 0) 1 43 := ⟨by decide +kernel, rfl⟩
theorem dX12_token_43 : DD cX12_token 43 (.invokevirtual 170) 3 46 := ⟨by decide +kernel, rfl⟩
theorem dX12_token_46 : DD cX12_token 46 (.istore_n 1) 1 47 := ⟨by decide +kernel, rfl⟩
theorem dX12_token_47 : DD cX12_token 47 (.iconst 0) 1 48 := ⟨by decide +kernel, rfl⟩
theorem dX12_token_48 : DD cX12_token 48 (.istore_n 2) 1 49 := ⟨by decide +kernel, rfl⟩
theorem dX12_token_49 : DD cX12_token 49 (.aload_n 0) 1 50 := ⟨by decide +kernel, rfl⟩
theorem dX12_token_50 : DD cX12_token 50 (.lconst 0) 1 51 := ⟨by decide +kernel, rfl⟩
theorem dX12_token_51 : DD cX12_token 51 (.putfield 177) 3 54 := ⟨by decide +kernel, rfl⟩
theorem dX12_token_54 : DD cX12_token 54 (.aload_n 0) 1 55 := ⟨by decide +kernel, rfl⟩
theorem dX12_token_55 : DD cX12_token 55 (.iconst 0) 1 56 := ⟨by decide +kernel, rfl⟩
theorem dX12_token_56 : DD cX12_token 56 (.putfield 181) 3 59 := ⟨by decide +kernel, rfl⟩
theorem dX12_token_59 : DD cX12_token 59 (.iload_n 1) 1 60 := ⟨by decide +kernel, rfl⟩
theorem dX12_token_60 : DD cX12_token 60 (.ifCond .ge 11) 3 63 := ⟨by decide +kernel, rfl⟩
theorem dX12_token_63 : DD cX12_token 63 (.aload_n 0) 1 64 := ⟨by decide +kernel, rfl⟩
theorem dX12_token_64 : DD cX12_token 64 (.iconst 0) 1 65 := ⟨by decide +kernel, rfl⟩
theorem dX12_token_65 : DD cX12_token 65 (.putfield 184) 3 68 := ⟨by decide +kernel, rfl⟩
theorem dX12_token_68 : DD cX12_token 68 (.goto 164) 3 71 := ⟨by decide +kernel, rfl⟩
theorem dX12_token_71 : DD cX12_token 71 (.iload_n 1) 1 72 := ⟨by decide +kernel, rfl⟩
theorem dX12_token_72 : DD cX12_token 72 (.invokestatic 187) 3 75 := ⟨by decide +kernel, rfl⟩
theorem dX12_token_75 : DD cX12_token 75 (.ifCond .eq 62) 3 78 := ⟨by decide +kernel, rfl⟩
theorem dX12_token_78 : DD cX12_token 78 (.aload_n 0) 1 79 := ⟨by decide +kernel, rfl⟩
theorem dX12_token_79 : DD cX12_token 79 (.iload_n 2) 1 80 := ⟨by decide +kernel, rfl⟩
theorem dX12_token_80 : DD cX12_token 80 (.invokevirtual 170) 3 83 := ⟨by decide +kernel, rfl⟩
theorem dX12_token_83 : DD cX12_token 83 (.invokestatic 187) 3 86 := ⟨by decide +kernel, rfl⟩
theorem dX12_token_86 : DD cX12_token 86 (.ifCond .eq 33) 3 89 := ⟨by decide +kernel, rfl⟩
theorem dX12_token_89 : DD cX12_token 89 (.iload_n 2) 1 90 := ⟨by decide +kernel, rfl⟩
theorem dX12_token_90 : DD cX12_token 90 (.bipush 8) 2 92 := ⟨by decide +kernel, rfl⟩
theorem dX12_token_92 : DD cX12_token 92 (.if_icmp .ge 21) 3 95 := ⟨by decide +kernel, rfl⟩
theorem dX12_token_95 : DD cX12_token 95 (.aload_n 0) 1 96 := ⟨by decide +kernel, rfl⟩
theorem dX12_token_96 : DD cX12_token 96 (.aload_n 0) 1 97 := ⟨by decide +kernel, rfl⟩
theorem dX12_token_97 : DD cX12_token 97 (.getfield 177) 3 100 := ⟨by decide +kernel, rfl⟩
theorem dX12_token_100 : DD cX12_token 100 (.bipush 8) 2 102 := ⟨by decide +kernel, rfl⟩
theorem dX12_token_102 : DD cX12_token 102 (.lshl) 1 103 := ⟨by decide +kernel, rfl⟩
theorem dX12_token_103 : DD cX12_token 103 (.aload_n 0) 1 104 := ⟨by decide +kernel, rfl⟩
theorem dX12_token_104 : DD cX12_token 104 (.iload_n 2) 1 105 := ⟨by decide +kernel, rfl⟩
theorem dX12_token_105 : DD cX12_token 105 (.invokevirtual 170) 3 108 := ⟨by decide +kernel, rfl⟩
theorem dX12_token_108 : DD cX12_token 108 (.i2l) 1 109 := ⟨by decide +kernel, rfl⟩
theorem dX12_token_109 : DD cX12_token 109 (.lor) 1 110 := ⟨by decide +kernel, rfl⟩
theorem dX12_token_110 : DD cX12_token 110 (.putfield 177) 3 113 := ⟨by decide +kernel, rfl⟩
theorem dX12_token_113 : DD cX12_token 113 (.iinc 2 1) 3 116 := ⟨by decide +kernel, rfl⟩
theorem dX12_token_116 : DD cX12_token 116 (.goto (-38)) 3 119 := ⟨by decide +kernel, rfl⟩
theorem dX12_token_119 : DD cX12_token 119 (.aload_n 0) 1 120 := ⟨by decide +kernel, rfl⟩
theorem dX12_token_120 : DD cX12_token 120 (.iload_n 2) 1 121 := ⟨by decide +kernel, rfl⟩
theorem dX12_token_121 : DD cX12_token 121 (.bipush 8) 2 123 := ⟨by decide +kernel, rfl⟩
theorem dX12_token_123 : DD cX12_token 123 (.if_icmp .le 7) 3 126 := ⟨by decide +kernel, rfl⟩
theorem dX12_token_126 : DD cX12_token 126 (.iconst 3) 1 127 := ⟨by decide +kernel, rfl⟩
theorem dX12_token_127 : DD cX12_token 127 (.goto 4) 3 130 := ⟨by decide +kernel, rfl⟩
theorem dX12_token_130 : DD cX12_token 130 (.iconst 1) 1 131 := ⟨by decide +kernel, rfl⟩
theorem dX12_token_131 : DD cX12_token 131 (.putfield 184) 3 134 := ⟨by decide +kernel, rfl⟩
theorem dX12_token_134 : DD cX12_token 134 (.goto 98) 3 137 := ⟨by decide +kernel, rfl⟩
theorem dX12_token_137 : DD cX12_token 137 (.iload_n 1) 1 138 := ⟨by decide +kernel, rfl⟩
theorem dX12_token_138 : DD cX12_token 138 (.invokestatic 191) 3 141 := ⟨by decide +kernel, rfl⟩
theorem dX12_token_141 : DD cX12_token 141 (.ifCond .eq 73) 3 144 := ⟨by decide +kernel, rfl⟩
theorem dX12_token_144 : DD cX12_token 144 (.aload_n 0) 1 145 := ⟨by decide +kernel, rfl⟩
theorem dX12_token_145 : DD cX12_token 145 (.iload_n 2) 1 146 := ⟨by decide +kernel, rfl⟩
theorem dX12_token_146 : DD cX12_token 146 (.invokevirtual 170) 3 149 := ⟨by decide +kernel, rfl⟩
theorem dX12_token_149 : DD cX12_token 149 (.invokestatic 191) 3 152 := ⟨by decide +kernel, rfl⟩
theorem dX12_token_152 : DD cX12_token 152 (.ifCond .eq 34) 3 155 := ⟨by decide +kernel, rfl⟩
theorem dX12_token_155 : DD cX12_token 155 (.iload_n 2) 1 156 := ⟨by decide +kernel, rfl⟩
theorem dX12_token_156 : DD cX12_token 156 (.iconst 4) 1 157 := ⟨by decide +kernel, rfl⟩
theorem dX12_token_157 : DD cX12_token 157 (.if_icmp .ge 23) 3 160 := ⟨by decide +kernel, rfl⟩
theorem dX12_token_160 : DD cX12_token 160 (.aload_n 0) 1 161 := ⟨by decide +kernel, rfl⟩
theorem dX12_token_161 : DD cX12_token 161 (.bipush 10) 2 163 := ⟨by decide +kernel, rfl⟩
theorem dX12_token_163 : DD cX12_token 163 (.aload_n 0) 1 164 := ⟨by decide +kernel, rfl⟩
theorem dX12_token_164 : DD cX12_token 164 (.getfield 181) 3 167 := ⟨by decide +kernel, rfl⟩
theorem dX12_token_167 : DD cX12_token 167 (.imul) 1 168 := ⟨by decide +kernel, rfl⟩
theorem dX12_token_168 : DD cX12_token 168 (.aload_n 0) 1 169 := ⟨by decide +kernel, rfl⟩
theorem dX12_token_169 : DD cX12_token 169 (.iload_n 2) 1 170 := ⟨by decide +kernel, rfl⟩
theorem dX12_token_170 : DD cX12_token 170 (.invokevirtual 170) 3 173 := ⟨by decide +kernel, rfl⟩
theorem dX12_token_173 : DD cX12_token 173 (.iadd) 1 174 := ⟨by decide +kernel, rfl⟩
theorem dX12_token_174 : DD cX12_token 174 (.bipush 48) 2 176 := ⟨by decide +kernel, rfl⟩
theorem dX12_token_176 : DD cX12_token 176 (.isub) 1 177 := ⟨by decide +kernel, rfl⟩
theorem dX12_token_177 : DD cX12_token 177 (.putfield 181) 3 180 := ⟨by decide +kernel, rfl⟩
theorem dX12_token_180 : DD cX12_token 180 (.iinc 2 1) 3 183 := ⟨by decide +kernel, rfl⟩
theorem dX12_token_183 : DD cX12_token 183 (.goto (-39)) 3 186 := ⟨by decide +kernel, rfl⟩
theorem dX12_token_186 : DD cX12_token 186 (.aload_n 0) 1 187 := ⟨by decide +kernel, rfl⟩
theorem dX12_token_187 : DD cX12_token 187 (.iload_n 2) 1 188 := ⟨by decide +kernel, rfl⟩
theorem dX12_token_188 : DD cX12_token 188 (.iconst 4) 1 189 := ⟨by decide +kernel, rfl⟩
theorem dX12_token_189 : DD cX12_token 189 (.if_icmp .gt 14) 3 192 := ⟨by decide +kernel, rfl⟩
theorem dX12_token_192 : DD cX12_token 192 (.aload_n 0) 1 193 := ⟨by decide +kernel, rfl⟩
theorem dX12_token_193 : DD cX12_token 193 (.iload_n 2) 1 194 := ⟨by decide +kernel, rfl⟩
theorem dX12_token_194 : DD cX12_token 194 (.invokevirtual 170) 3 197 := ⟨by decide +kernel, rfl⟩
theorem dX12_token_197 : DD cX12_token 197 (.invokestatic 187) 3 200 := ⟨by decide +kernel, rfl⟩
theorem dX12_token_200 : DD cX12_token 200 (.ifCond .eq 7) 3 203 := ⟨by decide +kernel, rfl⟩
theorem dX12_token_203 : DD cX12_token 203 (.iconst 3) 1 204 := ⟨by decide +kernel, rfl⟩
theorem dX12_token_204 : DD cX12_token 204 (.goto 4) 3 207 := ⟨by decide +kernel, rfl⟩
theorem dX12_token_207 : DD cX12_token 207 (.iconst 2) 1 208 := ⟨by decide +kernel, rfl⟩
theorem dX12_token_208 : DD cX12_token 208 (.putfield 184) 3 211 := ⟨by decide +kernel, rfl⟩
theorem dX12_token_211 : DD cX12_token 211 (.goto 21) 3 214 := ⟨by decide +kernel, rfl⟩
theorem dX12_token_214 : DD cX12_token 214 (.iconst 1) 1 215 := ⟨by decide +kernel, rfl⟩
theorem dX12_token_215 : DD cX12_token 215 (.istore_n 2) 1 216 := ⟨by decide +kernel, rfl⟩
theorem dX12_token_216 : DD cX12_token 216 (.aload_n 0) 1 217 := ⟨by decide +kernel, rfl⟩
theorem dX12_token_217 : DD cX12_token 217 (.iload_n 1) 1 218 := ⟨by decide +kernel, rfl⟩
theorem dX12_token_218 : DD cX12_token 218 (.invokestatic 194) 3 221 := ⟨by decide +kernel, rfl⟩
theorem dX12_token_221 : DD cX12_token 221 (.ifCond .eq 7) 3 224 := ⟨by decide +kernel, rfl⟩
theorem dX12_token_224 : DD cX12_token 224 (.iload_n 1) 1 225 := ⟨by decide +kernel, rfl⟩
theorem dX12_token_225 : DD cX12_token 225 (.goto 4) 3 228 := ⟨by decide +kernel, rfl⟩
theorem dX12_token_228 : DD cX12_token 228 (.iconst 3) 1 229 := ⟨by decide +kernel, rfl⟩
theorem dX12_token_229 : DD cX12_token 229 (.putfield 184) 3 232 := ⟨by decide +kernel, rfl⟩
theorem dX12_token_232 : DD cX12_token 232 (.aload_n 0) 1 233 := ⟨by decide +kernel, rfl⟩
theorem dX12_token_233 : DD cX12_token 233 (.getfield 184) 3 236 := ⟨by decide +kernel, rfl⟩
theorem dX12_token_236 : DD cX12_token 236 (.iconst 3) 1 237 := ⟨by decide +kernel, rfl⟩
theorem dX12_token_237 : DD cX12_token 237 (.if_icmp .eq 13) 3 240 := ⟨by decide +kernel, rfl⟩
theorem dX12_token_240 : DD cX12_token 240 (.aload_n 0) 1 241 := ⟨by decide +kernel, rfl⟩
theorem dX12_token_241 : DD cX12_token 241 (.dup) 1 242 := ⟨by decide +kernel, rfl⟩
theorem dX12_token_242 : DD cX12_token 242 (.getfield 164) 3 245 := ⟨by decide +kernel, rfl⟩
theorem dX12_token_245 : DD cX12_token 245 (.iload_n 2) 1 246 := ⟨by decide +kernel, rfl⟩
theorem dX12_token_246 : DD cX12_token 246 (.iadd) 1 247 := ⟨by decide +kernel, rfl⟩
theorem dX12_token_247 : DD cX12_token 247 (.putfield 164) 3 250 := ⟨by decide +kernel, rfl⟩
theorem dX12_token_250 : DD cX12_token 250 (.return_) 1 251 := ⟨by decide +kernel, rfl⟩
def gX12_token : Nat → Nat → Int32 → Mem → Option Mem
  | 0, _, _, _ => none
  | f + 1, 0, x2, m => (cP (fX12_here m (0 : Int32)) fun r1 => (if r1 = (32 : Int32) then (pt (sI m 0 4 ((m.1 0 4) + (1 : Int32))) fun m4 => (gX12_token f 0 0 m4)) else (cP (fX12_here m (0 : Int32)) fun r5 => (if r5 = (10 : Int32) then (pt (sI m 0 4 ((m.1 0 4) + (1 : Int32))) fun m32 => (gX12_token f 0 0 m32)) else (pt (sI m 0 7 (m.1 0 4)) fun m8 => (cP (fX12_here m8 (0 : Int32)) fun r9 => (pt (sL m8 0 9 (0 : Int64)) fun m11 => (pt (sI m11 0 8 (0 : Int32)) fun m12 => (if 0 ≤ r9 then (cP (fX12_isLetter r9) fun r14 => (if r14 = 0 then (cP (fX12_isDigit r9) fun r17 => (if r17 = 0 then (cP (fX12_isSign r9) fun r20 => (if r20 = 0 then (pt (sI m12 0 6 (3 : Int32)) fun m23 => (if (m23.1 0 6) = (3 : Int32) then (some m23) else (pt (sI m23 0 4 ((m23.1 0 4) + (1 : Int32))) fun m25 => (some m25)))) else (pt (sI m12 0 6 r9) fun m26 => (if (m26.1 0 6) = (3 : Int32) then (some m26) else (pt (sI m26 0 4 ((m26.1 0 4) + (1 : Int32))) fun m28 => (some m28)))))) else (gX12_token f 2 (0 : Int32) m12))) else (gX12_token f 1 (0 : Int32) m12))) else (pt (sI m12 0 6 (0 : Int32)) fun m29 => (if (m29.1 0 6) = (3 : Int32) then (some m29) else (pt (sI m29 0 4 ((m29.1 0 4) + (0 : Int32))) fun m31 => (some m31)))))))))))))
  | f + 1, 1, x2, m => (cP (fX12_here m x2) fun r1 => (cP (fX12_isLetter r1) fun r3 => (if r3 = 0 then (if x2 ≤ (8 : Int32) then (pt (sI m 0 6 (1 : Int32)) fun m7 => (if (m7.1 0 6) = (3 : Int32) then (some m7) else (pt (sI m7 0 4 ((m7.1 0 4) + x2)) fun m9 => (some m9)))) else (pt (sI m 0 6 (3 : Int32)) fun m10 => (if (m10.1 0 6) = (3 : Int32) then (some m10) else (pt (sI m10 0 4 ((m10.1 0 4) + x2)) fun m12 => (some m12))))) else (if (8 : Int32) ≤ x2 then (gX12_token f 1 (x2 + (1 : Int32)) m) else (cP (fX12_here m x2) fun r14 => (pt (sL m 0 9 (((m.2.1 0 9) <<< (((8 : Int32)).toInt64 &&& 63)) ||| (r14).toInt64)) fun m16 => (gX12_token f 1 (x2 + (1 : Int32)) m16)))))))
  | f + 1, 2, x2, m => (cP (fX12_here m x2) fun r1 => (cP (fX12_isDigit r1) fun r3 => (if r3 = 0 then (if (4 : Int32) < x2 then (pt (sI m 0 6 (3 : Int32)) fun m7 => (if (m7.1 0 6) = (3 : Int32) then (some m7) else (pt (sI m7 0 4 ((m7.1 0 4) + x2)) fun m9 => (some m9)))) else (cP (fX12_here m x2) fun r10 => (cP (fX12_isLetter r10) fun r12 => (if r12 = 0 then (pt (sI m 0 6 (2 : Int32)) fun m15 => (if (m15.1 0 6) = (3 : Int32) then (some m15) else (pt (sI m15 0 4 ((m15.1 0 4) + x2)) fun m17 => (some m17)))) else (pt (sI m 0 6 (3 : Int32)) fun m18 => (if (m18.1 0 6) = (3 : Int32) then (some m18) else (pt (sI m18 0 4 ((m18.1 0 4) + x2)) fun m20 => (some m20)))))))) else (if (4 : Int32) ≤ x2 then (gX12_token f 2 (x2 + (1 : Int32)) m) else (cP (fX12_here m x2) fun r22 => (pt (sI m 0 8 ((((10 : Int32) * (m.1 0 8)) + r22) - (48 : Int32))) fun m24 => (gX12_token f 2 (x2 + (1 : Int32)) m24)))))))
  | _ + 1, _ + 3, _, _ => none
def fX12_token (m : Mem) : Option Mem := (gX12_token 5000 0 0 m)
set_option maxHeartbeats 4000000 in
set_option maxRecDepth 100000 in
theorem wX12_token {X : Cx} {G : Gt} (h : OkX (X, G, wM, nM) cX12_token RX12 3 none 2) : ∀ f : Nat, (∀ (x2 : Int32) (m : Mem), JR (X, G, wM, nM) cvV m 0 [some (.ref (G.2.2 0)), none, none] [] (gX12_token f 0 x2 m)) ∧ (∀ (x2 : Int32) (m : Mem), JR (X, G, wM, nM) cvV m 78 [some (.ref (G.2.2 0)), none, some (.int x2)] [] (gX12_token f 1 x2 m)) ∧ (∀ (x2 : Int32) (m : Mem), JR (X, G, wM, nM) cvV m 144 [some (.ref (G.2.2 0)), none, some (.int x2)] [] (gX12_token f 2 x2 m)) := by
  intro f
  induction f with
  | zero => exact ⟨(fun _ _ => j_none), (fun _ _ => j_none), (fun _ _ => j_none)⟩
  | succ f ih =>
    refine ⟨?_, ?_, ?_⟩
    · intro x2 m
      rw [gX12_token]
      refine j_aload_n h dX12_token_0 rfl ?_
      refine j_iconst (v := (0 : Int32)) h dX12_token_1 kiconst_0 ?_
      refine j_callVP (q0 := 0) (ci := 12) h [.int (0 : Int32)] (kX12_here _ G h.2.2.2.2.2.2.2.2.2.2 m (0 : Int32)) okX12_here inX12_here ml12_170 rfl rfl rfl rfl (by decide) (by decide) (Nat.le_of_ble_eq_true rfl) rfl dX12_token_2 (fun r1 hr1 => ?_)
      refine j_bipush (v := (32 : Int32)) h dX12_token_5 kbipush_32 ?_
      refine j_icmp_eq (tgt := 20) h dX12_token_7 (by decide) (fun c3 => ?_) (fun c3 => ?_)
      · refine j_aload_n h dX12_token_20 rfl ?_
        refine j_dup h dX12_token_21 rfl ?_
        refine gM_4 h dX12_token_22 ?_
        refine j_iconst (v := (1 : Int32)) h dX12_token_25 kiconst_1 ?_
        refine j_iadd h dX12_token_26 ?_
        refine pM_4 h dX12_token_27 (fun m4 hm4 => ?_)
        refine j_goto (tgt := 0) h dX12_token_30 (by decide) ?_
        refine j_wk (ls' := [some (.ref (G.2.2 0)), none, none]) (And.intro rfl trivial) ?_
        exact ih.1 0 m4
      · refine j_aload_n h dX12_token_10 rfl ?_
        refine j_iconst (v := (0 : Int32)) h dX12_token_11 kiconst_0 ?_
        refine j_callVP (q0 := 0) (ci := 12) h [.int (0 : Int32)] (kX12_here _ G h.2.2.2.2.2.2.2.2.2.2 m (0 : Int32)) okX12_here inX12_here ml12_170 rfl rfl rfl rfl (by decide) (by decide) (Nat.le_of_ble_eq_true rfl) rfl dX12_token_12 (fun r5 hr5 => ?_)
        refine j_bipush (v := (10 : Int32)) h dX12_token_15 kbipush_10 ?_
        refine j_icmp_ne (tgt := 33) h dX12_token_17 (by decide) (fun c7 => ?_) (fun c7 => ?_)
        · refine j_aload_n h dX12_token_33 rfl ?_
          refine j_aload_n h dX12_token_34 rfl ?_
          refine gM_4 h dX12_token_35 ?_
          refine pM_7 h dX12_token_38 (fun m8 hm8 => ?_)
          refine j_aload_n h dX12_token_41 rfl ?_
          refine j_iconst (v := (0 : Int32)) h dX12_token_42 kiconst_0 ?_
          refine j_callVP (q0 := 0) (ci := 12) h [.int (0 : Int32)] (kX12_here _ G h.2.2.2.2.2.2.2.2.2.2 m8 (0 : Int32)) okX12_here inX12_here ml12_170 rfl rfl rfl rfl (by decide) (by decide) (Nat.le_of_ble_eq_true rfl) rfl dX12_token_43 (fun r9 hr9 => ?_)
          refine j_istore_n h dX12_token_46 rfl rfl ?_
          refine j_iconst (v := (0 : Int32)) h dX12_token_47 kiconst_0 ?_
          refine j_istore_n h dX12_token_48 rfl rfl ?_
          refine j_aload_n h dX12_token_49 rfl ?_
          refine j_lconst (v := (0 : Int64)) h dX12_token_50 rfl ?_
          refine pM_9 h dX12_token_51 (fun m11 hm11 => ?_)
          refine j_aload_n h dX12_token_54 rfl ?_
          refine j_iconst (v := (0 : Int32)) h dX12_token_55 kiconst_0 ?_
          refine pM_8 h dX12_token_56 (fun m12 hm12 => ?_)
          refine j_iload_n h dX12_token_59 rfl ?_
          refine j_if_ge (tgt := 71) h dX12_token_60 (by decide) (fun c13 => ?_) (fun c13 => ?_)
          · refine j_iload_n h dX12_token_71 rfl ?_
            refine j_callSP h [.int r9] (kX12_isLetter _ G h.2.2.2.2.2.2.2.2.2.2 m12 r9) okX12_isLetter stX12_isLetter ml12_187 rfl rfl (by decide) (by decide) (Nat.le_of_ble_eq_true rfl) rfl dX12_token_72 (fun r14 hr14 => ?_)
            refine j_if_eq (tgt := 137) h dX12_token_75 (by decide) (fun c16 => ?_) (fun c16 => ?_)
            · refine j_iload_n h dX12_token_137 rfl ?_
              refine j_callSP h [.int r9] (kX12_isDigit _ G h.2.2.2.2.2.2.2.2.2.2 m12 r9) okX12_isDigit stX12_isDigit ml12_191 rfl rfl (by decide) (by decide) (Nat.le_of_ble_eq_true rfl) rfl dX12_token_138 (fun r17 hr17 => ?_)
              refine j_if_eq (tgt := 214) h dX12_token_141 (by decide) (fun c19 => ?_) (fun c19 => ?_)
              · refine j_iconst (v := (1 : Int32)) h dX12_token_214 kiconst_1 ?_
                refine j_istore_n h dX12_token_215 rfl rfl ?_
                refine j_aload_n h dX12_token_216 rfl ?_
                refine j_iload_n h dX12_token_217 rfl ?_
                refine j_callSP h [.int r9] (kX12_isSign _ G h.2.2.2.2.2.2.2.2.2.2 m12 r9) okX12_isSign stX12_isSign ml12_194 rfl rfl (by decide) (by decide) (Nat.le_of_ble_eq_true rfl) rfl dX12_token_218 (fun r20 hr20 => ?_)
                refine j_if_eq (tgt := 228) h dX12_token_221 (by decide) (fun c22 => ?_) (fun c22 => ?_)
                · refine j_iconst (v := (3 : Int32)) h dX12_token_228 kiconst_3 ?_
                  refine pM_6 h dX12_token_229 (fun m23 hm23 => ?_)
                  refine j_aload_n h dX12_token_232 rfl ?_
                  refine gM_6 h dX12_token_233 ?_
                  refine j_iconst (v := (3 : Int32)) h dX12_token_236 kiconst_3 ?_
                  refine j_icmp_eq (tgt := 250) h dX12_token_237 (by decide) (fun c24 => ?_) (fun c24 => ?_)
                  · exact j_vret h rfl dX12_token_250
                  · refine j_aload_n h dX12_token_240 rfl ?_
                    refine j_dup h dX12_token_241 rfl ?_
                    refine gM_4 h dX12_token_242 ?_
                    refine j_iload_n h dX12_token_245 rfl ?_
                    refine j_iadd h dX12_token_246 ?_
                    refine pM_4 h dX12_token_247 (fun m25 hm25 => ?_)
                    exact j_vret h rfl dX12_token_250
                · refine j_iload_n h dX12_token_224 rfl ?_
                  refine j_goto (tgt := 229) h dX12_token_225 (by decide) ?_
                  refine pM_6 h dX12_token_229 (fun m26 hm26 => ?_)
                  refine j_aload_n h dX12_token_232 rfl ?_
                  refine gM_6 h dX12_token_233 ?_
                  refine j_iconst (v := (3 : Int32)) h dX12_token_236 kiconst_3 ?_
                  refine j_icmp_eq (tgt := 250) h dX12_token_237 (by decide) (fun c27 => ?_) (fun c27 => ?_)
                  · exact j_vret h rfl dX12_token_250
                  · refine j_aload_n h dX12_token_240 rfl ?_
                    refine j_dup h dX12_token_241 rfl ?_
                    refine gM_4 h dX12_token_242 ?_
                    refine j_iload_n h dX12_token_245 rfl ?_
                    refine j_iadd h dX12_token_246 ?_
                    refine pM_4 h dX12_token_247 (fun m28 hm28 => ?_)
                    exact j_vret h rfl dX12_token_250
              · refine j_wk (ls' := [some (.ref (G.2.2 0)), none, some (.int (0 : Int32))]) (And.intro rfl (And.intro rfl trivial)) ?_
                exact ih.2.2 (0 : Int32) m12
            · refine j_wk (ls' := [some (.ref (G.2.2 0)), none, some (.int (0 : Int32))]) (And.intro rfl (And.intro rfl trivial)) ?_
              exact ih.2.1 (0 : Int32) m12
          · refine j_aload_n h dX12_token_63 rfl ?_
            refine j_iconst (v := (0 : Int32)) h dX12_token_64 kiconst_0 ?_
            refine pM_6 h dX12_token_65 (fun m29 hm29 => ?_)
            refine j_goto (tgt := 232) h dX12_token_68 (by decide) ?_
            refine j_aload_n h dX12_token_232 rfl ?_
            refine gM_6 h dX12_token_233 ?_
            refine j_iconst (v := (3 : Int32)) h dX12_token_236 kiconst_3 ?_
            refine j_icmp_eq (tgt := 250) h dX12_token_237 (by decide) (fun c30 => ?_) (fun c30 => ?_)
            · exact j_vret h rfl dX12_token_250
            · refine j_aload_n h dX12_token_240 rfl ?_
              refine j_dup h dX12_token_241 rfl ?_
              refine gM_4 h dX12_token_242 ?_
              refine j_iload_n h dX12_token_245 rfl ?_
              refine j_iadd h dX12_token_246 ?_
              refine pM_4 h dX12_token_247 (fun m31 hm31 => ?_)
              exact j_vret h rfl dX12_token_250
        · refine j_aload_n h dX12_token_20 rfl ?_
          refine j_dup h dX12_token_21 rfl ?_
          refine gM_4 h dX12_token_22 ?_
          refine j_iconst (v := (1 : Int32)) h dX12_token_25 kiconst_1 ?_
          refine j_iadd h dX12_token_26 ?_
          refine pM_4 h dX12_token_27 (fun m32 hm32 => ?_)
          refine j_goto (tgt := 0) h dX12_token_30 (by decide) ?_
          refine j_wk (ls' := [some (.ref (G.2.2 0)), none, none]) (And.intro rfl trivial) ?_
          exact ih.1 0 m32
    · intro x2 m
      rw [gX12_token]
      refine j_aload_n h dX12_token_78 rfl ?_
      refine j_iload_n h dX12_token_79 rfl ?_
      refine j_callVP (q0 := 0) (ci := 12) h [.int x2] (kX12_here _ G h.2.2.2.2.2.2.2.2.2.2 m x2) okX12_here inX12_here ml12_170 rfl rfl rfl rfl (by decide) (by decide) (Nat.le_of_ble_eq_true rfl) rfl dX12_token_80 (fun r1 hr1 => ?_)
      refine j_callSP h [.int r1] (kX12_isLetter _ G h.2.2.2.2.2.2.2.2.2.2 m r1) okX12_isLetter stX12_isLetter ml12_187 rfl rfl (by decide) (by decide) (Nat.le_of_ble_eq_true rfl) rfl dX12_token_83 (fun r3 hr3 => ?_)
      refine j_if_eq (tgt := 119) h dX12_token_86 (by decide) (fun c5 => ?_) (fun c5 => ?_)
      · refine j_aload_n h dX12_token_119 rfl ?_
        refine j_iload_n h dX12_token_120 rfl ?_
        refine j_bipush (v := (8 : Int32)) h dX12_token_121 kbipush_8 ?_
        refine j_icmp_le (tgt := 130) h dX12_token_123 (by decide) (fun c6 => ?_) (fun c6 => ?_)
        · refine j_iconst (v := (1 : Int32)) h dX12_token_130 kiconst_1 ?_
          refine pM_6 h dX12_token_131 (fun m7 hm7 => ?_)
          refine j_goto (tgt := 232) h dX12_token_134 (by decide) ?_
          refine j_aload_n h dX12_token_232 rfl ?_
          refine gM_6 h dX12_token_233 ?_
          refine j_iconst (v := (3 : Int32)) h dX12_token_236 kiconst_3 ?_
          refine j_icmp_eq (tgt := 250) h dX12_token_237 (by decide) (fun c8 => ?_) (fun c8 => ?_)
          · exact j_vret h rfl dX12_token_250
          · refine j_aload_n h dX12_token_240 rfl ?_
            refine j_dup h dX12_token_241 rfl ?_
            refine gM_4 h dX12_token_242 ?_
            refine j_iload_n h dX12_token_245 rfl ?_
            refine j_iadd h dX12_token_246 ?_
            refine pM_4 h dX12_token_247 (fun m9 hm9 => ?_)
            exact j_vret h rfl dX12_token_250
        · refine j_iconst (v := (3 : Int32)) h dX12_token_126 kiconst_3 ?_
          refine j_goto (tgt := 131) h dX12_token_127 (by decide) ?_
          refine pM_6 h dX12_token_131 (fun m10 hm10 => ?_)
          refine j_goto (tgt := 232) h dX12_token_134 (by decide) ?_
          refine j_aload_n h dX12_token_232 rfl ?_
          refine gM_6 h dX12_token_233 ?_
          refine j_iconst (v := (3 : Int32)) h dX12_token_236 kiconst_3 ?_
          refine j_icmp_eq (tgt := 250) h dX12_token_237 (by decide) (fun c11 => ?_) (fun c11 => ?_)
          · exact j_vret h rfl dX12_token_250
          · refine j_aload_n h dX12_token_240 rfl ?_
            refine j_dup h dX12_token_241 rfl ?_
            refine gM_4 h dX12_token_242 ?_
            refine j_iload_n h dX12_token_245 rfl ?_
            refine j_iadd h dX12_token_246 ?_
            refine pM_4 h dX12_token_247 (fun m12 hm12 => ?_)
            exact j_vret h rfl dX12_token_250
      · refine j_iload_n h dX12_token_89 rfl ?_
        refine j_bipush (v := (8 : Int32)) h dX12_token_90 kbipush_8 ?_
        refine j_icmp_ge (tgt := 113) h dX12_token_92 (by decide) (fun c13 => ?_) (fun c13 => ?_)
        · refine j_iinc (v := (x2 + (1 : Int32))) h dX12_token_113 rfl (by rw [kiconst_1]) rfl ?_
          refine j_goto (tgt := 78) h dX12_token_116 (by decide) ?_
          refine j_wk (ls' := [some (.ref (G.2.2 0)), none, some (.int (x2 + (1 : Int32)))]) (And.intro rfl (And.intro rfl trivial)) ?_
          exact ih.2.1 (x2 + (1 : Int32)) m
        · refine j_aload_n h dX12_token_95 rfl ?_
          refine j_aload_n h dX12_token_96 rfl ?_
          refine gM_9 h dX12_token_97 ?_
          refine j_bipush (v := (8 : Int32)) h dX12_token_100 kbipush_8 ?_
          refine j_lshl h dX12_token_102 ?_
          refine j_aload_n h dX12_token_103 rfl ?_
          refine j_iload_n h dX12_token_104 rfl ?_
          refine j_callVP (q0 := 0) (ci := 12) h [.int x2] (kX12_here _ G h.2.2.2.2.2.2.2.2.2.2 m x2) okX12_here inX12_here ml12_170 rfl rfl rfl rfl (by decide) (by decide) (Nat.le_of_ble_eq_true rfl) rfl dX12_token_105 (fun r14 hr14 => ?_)
          refine j_i2l h dX12_token_108 ?_
          refine j_lor h dX12_token_109 ?_
          refine pM_9 h dX12_token_110 (fun m16 hm16 => ?_)
          refine j_iinc (v := (x2 + (1 : Int32))) h dX12_token_113 rfl (by rw [kiconst_1]) rfl ?_
          refine j_goto (tgt := 78) h dX12_token_116 (by decide) ?_
          refine j_wk (ls' := [some (.ref (G.2.2 0)), none, some (.int (x2 + (1 : Int32)))]) (And.intro rfl (And.intro rfl trivial)) ?_
          exact ih.2.1 (x2 + (1 : Int32)) m16
    · intro x2 m
      rw [gX12_token]
      refine j_aload_n h dX12_token_144 rfl ?_
      refine j_iload_n h dX12_token_145 rfl ?_
      refine j_callVP (q0 := 0) (ci := 12) h [.int x2] (kX12_here _ G h.2.2.2.2.2.2.2.2.2.2 m x2) okX12_here inX12_here ml12_170 rfl rfl rfl rfl (by decide) (by decide) (Nat.le_of_ble_eq_true rfl) rfl dX12_token_146 (fun r1 hr1 => ?_)
      refine j_callSP h [.int r1] (kX12_isDigit _ G h.2.2.2.2.2.2.2.2.2.2 m r1) okX12_isDigit stX12_isDigit ml12_191 rfl rfl (by decide) (by decide) (Nat.le_of_ble_eq_true rfl) rfl dX12_token_149 (fun r3 hr3 => ?_)
      refine j_if_eq (tgt := 186) h dX12_token_152 (by decide) (fun c5 => ?_) (fun c5 => ?_)
      · refine j_aload_n h dX12_token_186 rfl ?_
        refine j_iload_n h dX12_token_187 rfl ?_
        refine j_iconst (v := (4 : Int32)) h dX12_token_188 kiconst_4 ?_
        refine j_icmp_gt (tgt := 203) h dX12_token_189 (by decide) (fun c6 => ?_) (fun c6 => ?_)
        · refine j_iconst (v := (3 : Int32)) h dX12_token_203 kiconst_3 ?_
          refine j_goto (tgt := 208) h dX12_token_204 (by decide) ?_
          refine pM_6 h dX12_token_208 (fun m7 hm7 => ?_)
          refine j_goto (tgt := 232) h dX12_token_211 (by decide) ?_
          refine j_aload_n h dX12_token_232 rfl ?_
          refine gM_6 h dX12_token_233 ?_
          refine j_iconst (v := (3 : Int32)) h dX12_token_236 kiconst_3 ?_
          refine j_icmp_eq (tgt := 250) h dX12_token_237 (by decide) (fun c8 => ?_) (fun c8 => ?_)
          · exact j_vret h rfl dX12_token_250
          · refine j_aload_n h dX12_token_240 rfl ?_
            refine j_dup h dX12_token_241 rfl ?_
            refine gM_4 h dX12_token_242 ?_
            refine j_iload_n h dX12_token_245 rfl ?_
            refine j_iadd h dX12_token_246 ?_
            refine pM_4 h dX12_token_247 (fun m9 hm9 => ?_)
            exact j_vret h rfl dX12_token_250
        · refine j_aload_n h dX12_token_192 rfl ?_
          refine j_iload_n h dX12_token_193 rfl ?_
          refine j_callVP (q0 := 0) (ci := 12) h [.int x2] (kX12_here _ G h.2.2.2.2.2.2.2.2.2.2 m x2) okX12_here inX12_here ml12_170 rfl rfl rfl rfl (by decide) (by decide) (Nat.le_of_ble_eq_true rfl) rfl dX12_token_194 (fun r10 hr10 => ?_)
          refine j_callSP h [.int r10] (kX12_isLetter _ G h.2.2.2.2.2.2.2.2.2.2 m r10) okX12_isLetter stX12_isLetter ml12_187 rfl rfl (by decide) (by decide) (Nat.le_of_ble_eq_true rfl) rfl dX12_token_197 (fun r12 hr12 => ?_)
          refine j_if_eq (tgt := 207) h dX12_token_200 (by decide) (fun c14 => ?_) (fun c14 => ?_)
          · refine j_iconst (v := (2 : Int32)) h dX12_token_207 kiconst_2 ?_
            refine pM_6 h dX12_token_208 (fun m15 hm15 => ?_)
            refine j_goto (tgt := 232) h dX12_token_211 (by decide) ?_
            refine j_aload_n h dX12_token_232 rfl ?_
            refine gM_6 h dX12_token_233 ?_
            refine j_iconst (v := (3 : Int32)) h dX12_token_236 kiconst_3 ?_
            refine j_icmp_eq (tgt := 250) h dX12_token_237 (by decide) (fun c16 => ?_) (fun c16 => ?_)
            · exact j_vret h rfl dX12_token_250
            · refine j_aload_n h dX12_token_240 rfl ?_
              refine j_dup h dX12_token_241 rfl ?_
              refine gM_4 h dX12_token_242 ?_
              refine j_iload_n h dX12_token_245 rfl ?_
              refine j_iadd h dX12_token_246 ?_
              refine pM_4 h dX12_token_247 (fun m17 hm17 => ?_)
              exact j_vret h rfl dX12_token_250
          · refine j_iconst (v := (3 : Int32)) h dX12_token_203 kiconst_3 ?_
            refine j_goto (tgt := 208) h dX12_token_204 (by decide) ?_
            refine pM_6 h dX12_token_208 (fun m18 hm18 => ?_)
            refine j_goto (tgt := 232) h dX12_token_211 (by decide) ?_
            refine j_aload_n h dX12_token_232 rfl ?_
            refine gM_6 h dX12_token_233 ?_
            refine j_iconst (v := (3 : Int32)) h dX12_token_236 kiconst_3 ?_
            refine j_icmp_eq (tgt := 250) h dX12_token_237 (by decide) (fun c19 => ?_) (fun c19 => ?_)
            · exact j_vret h rfl dX12_token_250
            · refine j_aload_n h dX12_token_240 rfl ?_
              refine j_dup h dX12_token_241 rfl ?_
              refine gM_4 h dX12_token_242 ?_
              refine j_iload_n h dX12_token_245 rfl ?_
              refine j_iadd h dX12_token_246 ?_
              refine pM_4 h dX12_token_247 (fun m20 hm20 => ?_)
              exact j_vret h rfl dX12_token_250
      · refine j_iload_n h dX12_token_155 rfl ?_
        refine j_iconst (v := (4 : Int32)) h dX12_token_156 kiconst_4 ?_
        refine j_icmp_ge (tgt := 180) h dX12_token_157 (by decide) (fun c21 => ?_) (fun c21 => ?_)
        · refine j_iinc (v := (x2 + (1 : Int32))) h dX12_token_180 rfl (by rw [kiconst_1]) rfl ?_
          refine j_goto (tgt := 144) h dX12_token_183 (by decide) ?_
          refine j_wk (ls' := [some (.ref (G.2.2 0)), none, some (.int (x2 + (1 : Int32)))]) (And.intro rfl (And.intro rfl trivial)) ?_
          exact ih.2.2 (x2 + (1 : Int32)) m
        · refine j_aload_n h dX12_token_160 rfl ?_
          refine j_bipush (v := (10 : Int32)) h dX12_token_161 kbipush_10 ?_
          refine j_aload_n h dX12_token_163 rfl ?_
          refine gM_8 h dX12_token_164 ?_
          refine j_imul h dX12_token_167 ?_
          refine j_aload_n h dX12_token_168 rfl ?_
          refine j_iload_n h dX12_token_169 rfl ?_
          refine j_callVP (q0 := 0) (ci := 12) h [.int x2] (kX12_here _ G h.2.2.2.2.2.2.2.2.2.2 m x2) okX12_here inX12_here ml12_170 rfl rfl rfl rfl (by decide) (by decide) (Nat.le_of_ble_eq_true rfl) rfl dX12_token_170 (fun r22 hr22 => ?_)
          refine j_iadd h dX12_token_173 ?_
          refine j_bipush (v := (48 : Int32)) h dX12_token_174 kbipush_48 ?_
          refine j_isub h dX12_token_176 ?_
          refine pM_8 h dX12_token_177 (fun m24 hm24 => ?_)
          refine j_iinc (v := (x2 + (1 : Int32))) h dX12_token_180 rfl (by rw [kiconst_1]) rfl ?_
          refine j_goto (tgt := 144) h dX12_token_183 (by decide) ?_
          refine j_wk (ls' := [some (.ref (G.2.2 0)), none, some (.int (x2 + (1 : Int32)))]) (And.intro rfl (And.intro rfl trivial)) ?_
          exact ih.2.2 (x2 + (1 : Int32)) m24
set_option maxHeartbeats 4000000 in
set_option maxRecDepth 100000 in
theorem kX12_token (l : Launch) (G : Gt) (hD : ∀ m, va_D (inA G nM) (wM G m)) (m : Mem) : ∀ a, fX12_token m = some a → Ct l G wM nM yX12_token cX12_token 3 none 2 [.ref (G.2.2 0)] m (cvV a) := by
  refine ct_of (own := RX12) (ls0 := [some (.ref (G.2.2 0)), none, none]) (by decide) rfl rfl rfl (Nat.le_of_ble_eq_true rfl) hD (fun X h => ?_) l
  unfold fX12_token
  refine j_wk (ls' := [some (.ref (G.2.2 0)), none, none]) (And.intro rfl trivial) ?_
  exact (wX12_token h 5000).1 0 m
theorem dX12_wrong_0 : DD cX12_wrong 0 (.aload_n 0) 1 1 := ⟨by decide +kernel, rfl⟩
theorem dX12_wrong_1 : DD cX12_wrong 1 (.getfield 197) 3 4 := ⟨by decide +kernel, rfl⟩
theorem dX12_wrong_4 : DD cX12_wrong 4 (.ifCond .le 4) 3 7 := ⟨by decide +kernel, rfl⟩
theorem dX12_wrong_7 : DD cX12_wrong 7 (.return_) 1 8 := ⟨by decide +kernel, rfl⟩
theorem dX12_wrong_8 : DD cX12_wrong 8 (.aload_n 0) 1 9 := ⟨by decide +kernel, rfl⟩
theorem dX12_wrong_9 : DD cX12_wrong 9 (.aload_n 0) 1 10 := ⟨by decide +kernel, rfl⟩
theorem dX12_wrong_10 : DD cX12_wrong 10 (.getfield 184) 3 13 := ⟨by decide +kernel, rfl⟩
theorem dX12_wrong_13 : DD cX12_wrong 13 (.iconst 3) 1 14 := ⟨by decide +kernel, rfl⟩
theorem dX12_wrong_14 : DD cX12_wrong 14 (.if_icmp .ne 7) 3 17 := ⟨by decide +kernel, rfl⟩
theorem dX12_wrong_17 : DD cX12_wrong 17 (.iconst 1) 1 18 := ⟨by decide +kernel, rfl⟩
theorem dX12_wrong_18 : DD cX12_wrong 18 (.goto 4) 3 21 := ⟨by decide +kernel, rfl⟩
theorem dX12_wrong_21 : DD cX12_wrong 21 (.iload_n 1) 1 22 := ⟨by decide +kernel, rfl⟩
theorem dX12_wrong_22 : DD cX12_wrong 22 (.putfield 197) 3 25 := ⟨by decide +kernel, rfl⟩
theorem dX12_wrong_25 : DD cX12_wrong 25 (.aload_n 0) 1 26 := ⟨by decide +kernel, rfl⟩
theorem dX12_wrong_26 : DD cX12_wrong 26 (.aload_n 0) 1 27 := ⟨by decide +kernel, rfl⟩
theorem dX12_wrong_27 : DD cX12_wrong 27 (.getfield 174) 3 30 := ⟨by decide +kernel, rfl⟩
theorem dX12_wrong_30 : DD cX12_wrong 30 (.putfield 13) 3 33 := ⟨by decide +kernel, rfl⟩
theorem dX12_wrong_33 : DD cX12_wrong 33 (.return_) 1 34 := ⟨by decide +kernel, rfl⟩
def fX12_wrong (m : Mem) (x1 : Int32) : Option Mem := (if (m.1 0 2) ≤ 0 then (if (m.1 0 6) = (3 : Int32) then (pt (sI m 0 2 (1 : Int32)) fun m5 => (pt (sI m5 0 3 (m5.1 0 7)) fun m6 => (some m6))) else (pt (sI m 0 2 x1) fun m3 => (pt (sI m3 0 3 (m3.1 0 7)) fun m4 => (some m4)))) else (some m))
set_option maxHeartbeats 4000000 in
set_option maxRecDepth 100000 in
theorem kX12_wrong (l : Launch) (G : Gt) (hD : ∀ m, va_D (inA G nM) (wM G m)) (m : Mem) (x1 : Int32) : ∀ a, fX12_wrong m x1 = some a → Ct l G wM nM yX12_wrong cX12_wrong 2 none 1 [.ref (G.2.2 0), .int x1] m (cvV a) := by
  refine ct_of (own := RX12) (ls0 := [some (.ref (G.2.2 0)), some (.int x1)]) (by decide) rfl rfl rfl (Nat.le_of_ble_eq_true rfl) hD (fun X h => ?_) l
  unfold fX12_wrong
  refine j_aload_n h dX12_wrong_0 rfl ?_
  refine gM_2 h dX12_wrong_1 ?_
  refine j_if_le (tgt := 8) h dX12_wrong_4 (by decide) (fun c1 => ?_) (fun c1 => ?_)
  · refine j_aload_n h dX12_wrong_8 rfl ?_
    refine j_aload_n h dX12_wrong_9 rfl ?_
    refine gM_6 h dX12_wrong_10 ?_
    refine j_iconst (v := (3 : Int32)) h dX12_wrong_13 kiconst_3 ?_
    refine j_icmp_ne (tgt := 21) h dX12_wrong_14 (by decide) (fun c2 => ?_) (fun c2 => ?_)
    · refine j_iload_n h dX12_wrong_21 rfl ?_
      refine pM_2 h dX12_wrong_22 (fun m3 hm3 => ?_)
      refine j_aload_n h dX12_wrong_25 rfl ?_
      refine j_aload_n h dX12_wrong_26 rfl ?_
      refine gM_7 h dX12_wrong_27 ?_
      refine pM_3 h dX12_wrong_30 (fun m4 hm4 => ?_)
      exact j_vret h rfl dX12_wrong_33
    · refine j_iconst (v := (1 : Int32)) h dX12_wrong_17 kiconst_1 ?_
      refine j_goto (tgt := 22) h dX12_wrong_18 (by decide) ?_
      refine pM_2 h dX12_wrong_22 (fun m5 hm5 => ?_)
      refine j_aload_n h dX12_wrong_25 rfl ?_
      refine j_aload_n h dX12_wrong_26 rfl ?_
      refine gM_7 h dX12_wrong_27 ?_
      refine pM_3 h dX12_wrong_30 (fun m6 hm6 => ?_)
      exact j_vret h rfl dX12_wrong_33
  · exact j_vret h rfl dX12_wrong_7
theorem dX12_isWord_0 : DD cX12_isWord 0 (.aload_n 0) 1 1 := ⟨by decide +kernel, rfl⟩
theorem dX12_isWord_1 : DD cX12_isWord 1 (.getfield 184) 3 4 := ⟨by decide +kernel, rfl⟩
theorem dX12_isWord_4 : DD cX12_isWord 4 (.iconst 1) 1 5 := ⟨by decide +kernel, rfl⟩
theorem dX12_isWord_5 : DD cX12_isWord 5 (.if_icmp .ne 16) 3 8 := ⟨by decide +kernel, rfl⟩
theorem dX12_isWord_8 : DD cX12_isWord 8 (.aload_n 0) 1 9 := ⟨by decide +kernel, rfl⟩
theorem dX12_isWord_9 : DD cX12_isWord 9 (.getfield 177) 3 12 := ⟨by decide +kernel, rfl⟩
theorem dX12_isWord_12 : DD cX12_isWord 12 (.lload_n 1) 1 13 := ⟨by decide +kernel, rfl⟩
theorem dX12_isWord_13 : DD cX12_isWord 13 (.lcmp) 1 14 := ⟨by decide +kernel, rfl⟩
theorem dX12_isWord_14 : DD cX12_isWord 14 (.ifCond .ne 7) 3 17 := ⟨by decide +kernel, rfl⟩
theorem dX12_isWord_17 : DD cX12_isWord 17 (.iconst 1) 1 18 := ⟨by decide +kernel, rfl⟩
theorem dX12_isWord_18 : DD cX12_isWord 18 (.goto 4) 3 21 := ⟨by decide +kernel, rfl⟩
theorem dX12_isWord_21 : DD cX12_isWord 21 (.iconst 0) 1 22 := ⟨by decide +kernel, rfl⟩
theorem dX12_isWord_22 : DD cX12_isWord 22 (.ireturn) 1 23 := ⟨by decide +kernel, rfl⟩
def fX12_isWord (m : Mem) (x1 : Int64) : Option Int32 := (if (m.1 0 6) = (1 : Int32) then (if (lg_cmp (m.2.1 0 9) x1) = 0 then (some (1 : Int32)) else (some (0 : Int32))) else (some (0 : Int32)))
set_option maxHeartbeats 4000000 in
set_option maxRecDepth 100000 in
theorem kX12_isWord (l : Launch) (G : Gt) (hD : ∀ m, va_D (inA G nM) (wM G m)) (m : Mem) (x1 : Int64) : ∀ a, fX12_isWord m x1 = some a → Ct l G wM nM yX12_isWord cX12_isWord 3 (some .boolean) 1 [.ref (G.2.2 0), .long x1] m ((cvP m) a) := by
  refine ct_of (own := RX12) (ls0 := [some (.ref (G.2.2 0)), some (.long x1), none]) (by decide) rfl rfl rfl (Nat.le_of_ble_eq_true rfl) hD (fun X h => ?_) l
  unfold fX12_isWord
  refine j_aload_n h dX12_isWord_0 rfl ?_
  refine gM_6 h dX12_isWord_1 ?_
  refine j_iconst (v := (1 : Int32)) h dX12_isWord_4 kiconst_1 ?_
  refine j_icmp_ne (tgt := 21) h dX12_isWord_5 (by decide) (fun c1 => ?_) (fun c1 => ?_)
  · refine j_iconst (v := (0 : Int32)) h dX12_isWord_21 kiconst_0 ?_
    exact j_zretB h rfl rfl dX12_isWord_22
  · refine j_aload_n h dX12_isWord_8 rfl ?_
    refine gM_9 h dX12_isWord_9 ?_
    refine j_lload_n h dX12_isWord_12 rfl ?_
    refine j_lcmp h dX12_isWord_13 ?_
    refine j_if_ne (tgt := 21) h dX12_isWord_14 (by decide) (fun c2 => ?_) (fun c2 => ?_)
    · refine j_iconst (v := (0 : Int32)) h dX12_isWord_21 kiconst_0 ?_
      exact j_zretB h rfl rfl dX12_isWord_22
    · refine j_iconst (v := (1 : Int32)) h dX12_isWord_17 kiconst_1 ?_
      refine j_goto (tgt := 22) h dX12_isWord_18 (by decide) ?_
      exact j_zretB h rfl rfl dX12_isWord_22
theorem dX12_isOwn_0 : DD cX12_isOwn 0 (.aload_n 0) 1 1 := ⟨by decide +kernel, rfl⟩
theorem dX12_isOwn_1 : DD cX12_isOwn 1 (.getfield 177) 3 4 := ⟨by decide +kernel, rfl⟩
theorem dX12_isOwn_4 : DD cX12_isOwn 4 (.ldc2_w 200) 3 7 := ⟨by decide +kernel, rfl⟩
theorem dX12_isOwn_7 : DD cX12_isOwn 7 (.lcmp) 1 8 := ⟨by decide +kernel, rfl⟩
theorem dX12_isOwn_8 : DD cX12_isOwn 8 (.ifCond .eq 201) 3 11 := ⟨by decide +kernel, rfl⟩
theorem dX12_isOwn_11 : DD cX12_isOwn 11 (.aload_n 0) 1 12 := ⟨by decide +kernel, rfl⟩
theorem dX12_isOwn_12 : DD cX12_isOwn 12 (.getfield 177) 3 15 := ⟨by decide +kernel, rfl⟩
theorem dX12_isOwn_15 : DD cX12_isOwn 15 (.ldc2_w 202) 3 18 := ⟨by decide +kernel, rfl⟩
theorem dX12_isOwn_18 : DD cX12_isOwn 18 (.lcmp) 1 19 := ⟨by decide +kernel, rfl⟩
theorem dX12_isOwn_19 : DD cX12_isOwn 19 (.ifCond .eq 190) 3 22 := ⟨by decide +kernel, rfl⟩
theorem dX12_isOwn_22 : DD cX12_isOwn 22 (.aload_n 0) 1 23 := ⟨by decide +kernel, rfl⟩
theorem dX12_isOwn_23 : DD cX12_isOwn 23 (.getfield 177) 3 26 := ⟨by decide +kernel, rfl⟩
theorem dX12_isOwn_26 : DD cX12_isOwn 26 (.ldc2_w 204) 3 29 := ⟨by decide +kernel, rfl⟩
theorem dX12_isOwn_29 : DD cX12_isOwn 29 (.lcmp) 1 30 := ⟨by decide +kernel, rfl⟩
theorem dX12_isOwn_30 : DD cX12_isOwn 30 (.ifCond .eq 179) 3 33 := ⟨by decide +kernel, rfl⟩
theorem dX12_isOwn_33 : DD cX12_isOwn 33 (.aload_n 0) 1 34 := ⟨by decide +kernel, rfl⟩
theorem dX12_isOwn_34 : DD cX12_isOwn 34 (.getfield 177) 3 37 := ⟨by decide +kernel, rfl⟩
theorem dX12_isOwn_37 : DD cX12_isOwn 37 (.ldc2_w 206) 3 40 := ⟨by decide +kernel, rfl⟩
theorem dX12_isOwn_40 : DD cX12_isOwn 40 (.lcmp) 1 41 := ⟨by decide +kernel, rfl⟩
theorem dX12_isOwn_41 : DD cX12_isOwn 41 (.ifCond .eq 168) 3 44 := ⟨by decide +kernel, rfl⟩
theorem dX12_isOwn_44 : DD cX12_isOwn 44 (.aload_n 0) 1 45 := ⟨by decide +kernel, rfl⟩
theorem dX12_isOwn_45 : DD cX12_isOwn 45 (.getfield 177) 3 48 := ⟨by decide +kernel, rfl⟩
theorem dX12_isOwn_48 : DD cX12_isOwn 48 (.ldc2_w 208) 3 51 := ⟨by decide +kernel, rfl⟩
theorem dX12_isOwn_51 : DD cX12_isOwn 51 (.lcmp) 1 52 := ⟨by decide +kernel, rfl⟩
theorem dX12_isOwn_52 : DD cX12_isOwn 52 (.ifCond .eq 157) 3 55 := ⟨by decide +kernel, rfl⟩
theorem dX12_isOwn_55 : DD cX12_isOwn 55 (.aload_n 0) 1 56 := ⟨by decide +kernel, rfl⟩
theorem dX12_isOwn_56 : DD cX12_isOwn 56 (.getfield 177) 3 59 := ⟨by decide +kernel, rfl⟩
theorem dX12_isOwn_59 : DD cX12_isOwn 59 (.ldc2_w 210) 3 62 := ⟨by decide +kernel, rfl⟩
theorem dX12_isOwn_62 : DD cX12_isOwn 62 (.lcmp) 1 63 := ⟨by decide +kernel, rfl⟩
theorem dX12_isOwn_63 : DD cX12_isOwn 63 (.ifCond .eq 146) 3 66 := ⟨by decide +kernel, rfl⟩
theorem dX12_isOwn_66 : DD cX12_isOwn 66 (.aload_n 0) 1 67 := ⟨by decide +kernel, rfl⟩
theorem dX12_isOwn_67 : DD cX12_isOwn 67 (.getfield 177) 3 70 := ⟨by decide +kernel, rfl⟩
theorem dX12_isOwn_70 : DD cX12_isOwn 70 (.ldc2_w 212) 3 73 := ⟨by decide +kernel, rfl⟩
theorem dX12_isOwn_73 : DD cX12_isOwn 73 (.lcmp) 1 74 := ⟨by decide +kernel, rfl⟩
theorem dX12_isOwn_74 : DD cX12_isOwn 74 (.ifCond .eq 135) 3 77 := ⟨by decide +kernel, rfl⟩
theorem dX12_isOwn_77 : DD cX12_isOwn 77 (.aload_n 0) 1 78 := ⟨by decide +kernel, rfl⟩
theorem dX12_isOwn_78 : DD cX12_isOwn 78 (.getfield 177) 3 81 := ⟨by decide +kernel, rfl⟩
theorem dX12_isOwn_81 : DD cX12_isOwn 81 (.ldc2_w 214) 3 84 := ⟨by decide +kernel, rfl⟩
theorem dX12_isOwn_84 : DD cX12_isOwn 84 (.lcmp) 1 85 := ⟨by decide +kernel, rfl⟩
theorem dX12_isOwn_85 : DD cX12_isOwn 85 (.ifCond .eq 124) 3 88 := ⟨by decide +kernel, rfl⟩
theorem dX12_isOwn_88 : DD cX12_isOwn 88 (.aload_n 0) 1 89 := ⟨by decide +kernel, rfl⟩
theorem dX12_isOwn_89 : DD cX12_isOwn 89 (.getfield 177) 3 92 := ⟨by decide +kernel, rfl⟩
theorem dX12_isOwn_92 : DD cX12_isOwn 92 (.ldc2_w 216) 3 95 := ⟨by decide +kernel, rfl⟩
theorem dX12_isOwn_95 : DD cX12_isOwn 95 (.lcmp) 1 96 := ⟨by decide +kernel, rfl⟩
theorem dX12_isOwn_96 : DD cX12_isOwn 96 (.ifCond .eq 113) 3 99 := ⟨by decide +kernel, rfl⟩
theorem dX12_isOwn_99 : DD cX12_isOwn 99 (.aload_n 0) 1 100 := ⟨by decide +kernel, rfl⟩
theorem dX12_isOwn_100 : DD cX12_isOwn 100 (.getfield 177) 3 103 := ⟨by decide +kernel, rfl⟩
theorem dX12_isOwn_103 : DD cX12_isOwn 103 (.ldc2_w 218) 3 106 := ⟨by decide +kernel, rfl⟩
theorem dX12_isOwn_106 : DD cX12_isOwn 106 (.lcmp) 1 107 := ⟨by decide +kernel, rfl⟩
theorem dX12_isOwn_107 : DD cX12_isOwn 107 (.ifCond .eq 102) 3 110 := ⟨by decide +kernel, rfl⟩
theorem dX12_isOwn_110 : DD cX12_isOwn 110 (.aload_n 0) 1 111 := ⟨by decide +kernel, rfl⟩
theorem dX12_isOwn_111 : DD cX12_isOwn 111 (.getfield 177) 3 114 := ⟨by decide +kernel, rfl⟩
theorem dX12_isOwn_114 : DD cX12_isOwn 114 (.ldc2_w 220) 3 117 := ⟨by decide +kernel, rfl⟩
theorem dX12_isOwn_117 : DD cX12_isOwn 117 (.lcmp) 1 118 := ⟨by decide +kernel, rfl⟩
theorem dX12_isOwn_118 : DD cX12_isOwn 118 (.ifCond .eq 91) 3 121 := ⟨by decide +kernel, rfl⟩
theorem dX12_isOwn_121 : DD cX12_isOwn 121 (.aload_n 0) 1 122 := ⟨by decide +kernel, rfl⟩
theorem dX12_isOwn_122 : DD cX12_isOwn 122 (.getfield 177) 3 125 := ⟨by decide +kernel, rfl⟩
theorem dX12_isOwn_125 : DD cX12_isOwn 125 (.ldc2_w 222) 3 128 := ⟨by decide +kernel, rfl⟩
theorem dX12_isOwn_128 : DD cX12_isOwn 128 (.lcmp) 1 129 := ⟨by decide +kernel, rfl⟩
theorem dX12_isOwn_129 : DD cX12_isOwn 129 (.ifCond .eq 80) 3 132 := ⟨by decide +kernel, rfl⟩
theorem dX12_isOwn_132 : DD cX12_isOwn 132 (.aload_n 0) 1 133 := ⟨by decide +kernel, rfl⟩
theorem dX12_isOwn_133 : DD cX12_isOwn 133 (.getfield 177) 3 136 := ⟨by decide +kernel, rfl⟩
theorem dX12_isOwn_136 : DD cX12_isOwn 136 (.ldc2_w 224) 3 139 := ⟨by decide +kernel, rfl⟩
theorem dX12_isOwn_139 : DD cX12_isOwn 139 (.lcmp) 1 140 := ⟨by decide +kernel, rfl⟩
theorem dX12_isOwn_140 : DD cX12_isOwn 140 (.ifCond .eq 69) 3 143 := ⟨by decide +kernel, rfl⟩
theorem dX12_isOwn_143 : DD cX12_isOwn 143 (.aload_n 0) 1 144 := ⟨by decide +kernel, rfl⟩
theorem dX12_isOwn_144 : DD cX12_isOwn 144 (.getfield 177) 3 147 := ⟨by decide +kernel, rfl⟩
theorem dX12_isOwn_147 : DD cX12_isOwn 147 (.ldc2_w 226) 3 150 := ⟨by decide +kernel, rfl⟩
theorem dX12_isOwn_150 : DD cX12_isOwn 150 (.lcmp) 1 151 := ⟨by decide +kernel, rfl⟩
theorem dX12_isOwn_151 : DD cX12_isOwn 151 (.ifCond .eq 58) 3 154 := ⟨by decide +kernel, rfl⟩
theorem dX12_isOwn_154 : DD cX12_isOwn 154 (.aload_n 0) 1 155 := ⟨by decide +kernel, rfl⟩
theorem dX12_isOwn_155 : DD cX12_isOwn 155 (.getfield 177) 3 158 := ⟨by decide +kernel, rfl⟩
theorem dX12_isOwn_158 : DD cX12_isOwn 158 (.ldc2_w 228) 3 161 := ⟨by decide +kernel, rfl⟩
theorem dX12_isOwn_161 : DD cX12_isOwn 161 (.lcmp) 1 162 := ⟨by decide +kernel, rfl⟩
theorem dX12_isOwn_162 : DD cX12_isOwn 162 (.ifCond .eq 47) 3 165 := ⟨by decide +kernel, rfl⟩
theorem dX12_isOwn_165 : DD cX12_isOwn 165 (.aload_n 0) 1 166 := ⟨by decide +kernel, rfl⟩
theorem dX12_isOwn_166 : DD cX12_isOwn 166 (.getfield 177) 3 169 := ⟨by decide +kernel, rfl⟩
theorem dX12_isOwn_169 : DD cX12_isOwn 169 (.ldc2_w 230) 3 172 := ⟨by decide +kernel, rfl⟩
theorem dX12_isOwn_172 : DD cX12_isOwn 172 (.lcmp) 1 173 := ⟨by decide +kernel, rfl⟩
theorem dX12_isOwn_173 : DD cX12_isOwn 173 (.ifCond .eq 36) 3 176 := ⟨by decide +kernel, rfl⟩
theorem dX12_isOwn_176 : DD cX12_isOwn 176 (.aload_n 0) 1 177 := ⟨by decide +kernel, rfl⟩
theorem dX12_isOwn_177 : DD cX12_isOwn 177 (.getfield 177) 3 180 := ⟨by decide +kernel, rfl⟩
theorem dX12_isOwn_180 : DD cX12_isOwn 180 (.ldc2_w 232) 3 183 := ⟨by decide +kernel, rfl⟩
theorem dX12_isOwn_183 : DD cX12_isOwn 183 (.lcmp) 1 184 := ⟨by decide +kernel, rfl⟩
theorem dX12_isOwn_184 : DD cX12_isOwn 184 (.ifCond .eq 25) 3 187 := ⟨by decide +kernel, rfl⟩
theorem dX12_isOwn_187 : DD cX12_isOwn 187 (.aload_n 0) 1 188 := ⟨by decide +kernel, rfl⟩
theorem dX12_isOwn_188 : DD cX12_isOwn 188 (.getfield 177) 3 191 := ⟨by decide +kernel, rfl⟩
theorem dX12_isOwn_191 : DD cX12_isOwn 191 (.ldc2_w 234) 3 194 := ⟨by decide +kernel, rfl⟩
theorem dX12_isOwn_194 : DD cX12_isOwn 194 (.lcmp) 1 195 := ⟨by decide +kernel, rfl⟩
theorem dX12_isOwn_195 : DD cX12_isOwn 195 (.ifCond .eq 14) 3 198 := ⟨by decide +kernel, rfl⟩
theorem dX12_isOwn_198 : DD cX12_isOwn 198 (.aload_n 0) 1 199 := ⟨by decide +kernel, rfl⟩
theorem dX12_isOwn_199 : DD cX12_isOwn 199 (.getfield 177) 3 202 := ⟨by decide +kernel, rfl⟩
theorem dX12_isOwn_202 : DD cX12_isOwn 202 (.ldc2_w 236) 3 205 := ⟨by decide +kernel, rfl⟩
theorem dX12_isOwn_205 : DD cX12_isOwn 205 (.lcmp) 1 206 := ⟨by decide +kernel, rfl⟩
theorem dX12_isOwn_206 : DD cX12_isOwn 206 (.ifCond .ne 7) 3 209 := ⟨by decide +kernel, rfl⟩
theorem dX12_isOwn_209 : DD cX12_isOwn 209 (.iconst 1) 1 210 := ⟨by decide +kernel, rfl⟩
theorem dX12_isOwn_210 : DD cX12_isOwn 210 (.goto 4) 3 213 := ⟨by decide +kernel, rfl⟩
theorem dX12_isOwn_213 : DD cX12_isOwn 213 (.iconst 0) 1 214 := ⟨by decide +kernel, rfl⟩
theorem dX12_isOwn_214 : DD cX12_isOwn 214 (.ireturn) 1 215 := ⟨by decide +kernel, rfl⟩
def fX12_isOwn (m : Mem) : Option Int32 := (if (lg_cmp (m.2.1 0 9) (123581014175598 : Int64)) = 0 then (some (1 : Int32)) else (if (lg_cmp (m.2.1 0 9) (24948 : Int64)) = 0 then (some (1 : Int32)) else (if (lg_cmp (m.2.1 0 9) (474214787188 : Int64)) = 0 then (some (1 : Int32)) else (if (lg_cmp (m.2.1 0 9) (448445441893 : Int64)) = 0 then (some (1 : Int32)) else (if (lg_cmp (m.2.1 0 9) (1835361652 : Int64)) = 0 then (some (1 : Int32)) else (if (lg_cmp (m.2.1 0 9) (448546566771 : Int64)) = 0 then (some (1 : Int32)) else (if (lg_cmp (m.2.1 0 9) (512970880104 : Int64)) = 0 then (some (1 : Int32)) else (if (lg_cmp (m.2.1 0 9) (474315584357 : Int64)) = 0 then (some (1 : Int32)) else (if (lg_cmp (m.2.1 0 9) (1819243876 : Int64)) = 0 then (some (1 : Int32)) else (if (lg_cmp (m.2.1 0 9) (33602636119176556 : Int64)) = 0 then (some (1 : Int32)) else (if (lg_cmp (m.2.1 0 9) (1684109166 : Int64)) = 0 then (some (1 : Int32)) else (if (lg_cmp (m.2.1 0 9) (1685418859 : Int64)) = 0 then (some (1 : Int32)) else (if (lg_cmp (m.2.1 0 9) (1751216749 : Int64)) = 0 then (some (1 : Int32)) else (if (lg_cmp (m.2.1 0 9) (1684108389 : Int64)) = 0 then (some (1 : Int32)) else (if (lg_cmp (m.2.1 0 9) (1752135026 : Int64)) = 0 then (some (1 : Int32)) else (if (lg_cmp (m.2.1 0 9) (6709618 : Int64)) = 0 then (some (1 : Int32)) else (if (lg_cmp (m.2.1 0 9) (6385252 : Int64)) = 0 then (some (1 : Int32)) else (if (lg_cmp (m.2.1 0 9) (28530 : Int64)) = 0 then (some (1 : Int32)) else (if (lg_cmp (m.2.1 0 9) (7237492 : Int64)) = 0 then (some (1 : Int32)) else (some (0 : Int32)))))))))))))))))))))
set_option maxHeartbeats 4000000 in
set_option maxRecDepth 100000 in
theorem kX12_isOwn (l : Launch) (G : Gt) (hD : ∀ m, va_D (inA G nM) (wM G m)) (m : Mem) : ∀ a, fX12_isOwn m = some a → Ct l G wM nM yX12_isOwn cX12_isOwn 1 (some .boolean) 1 [.ref (G.2.2 0)] m ((cvP m) a) := by
  refine ct_of (own := RX12) (ls0 := [some (.ref (G.2.2 0))]) (by decide) rfl rfl rfl (Nat.le_of_ble_eq_true rfl) hD (fun X h => ?_) l
  unfold fX12_isOwn
  refine j_aload_n h dX12_isOwn_0 rfl ?_
  refine gM_9 h dX12_isOwn_1 ?_
  refine j_ldc2 (v := (123581014175598 : Int64)) h dX12_isOwn_4 cl12_200 ?_
  refine j_lcmp h dX12_isOwn_7 ?_
  refine j_if_eq (tgt := 209) h dX12_isOwn_8 (by decide) (fun c1 => ?_) (fun c1 => ?_)
  · refine j_iconst (v := (1 : Int32)) h dX12_isOwn_209 kiconst_1 ?_
    refine j_goto (tgt := 214) h dX12_isOwn_210 (by decide) ?_
    exact j_zretB h rfl rfl dX12_isOwn_214
  · refine j_aload_n h dX12_isOwn_11 rfl ?_
    refine gM_9 h dX12_isOwn_12 ?_
    refine j_ldc2 (v := (24948 : Int64)) h dX12_isOwn_15 cl12_202 ?_
    refine j_lcmp h dX12_isOwn_18 ?_
    refine j_if_eq (tgt := 209) h dX12_isOwn_19 (by decide) (fun c2 => ?_) (fun c2 => ?_)
    · refine j_iconst (v := (1 : Int32)) h dX12_isOwn_209 kiconst_1 ?_
      refine j_goto (tgt := 214) h dX12_isOwn_210 (by decide) ?_
      exact j_zretB h rfl rfl dX12_isOwn_214
    · refine j_aload_n h dX12_isOwn_22 rfl ?_
      refine gM_9 h dX12_isOwn_23 ?_
      refine j_ldc2 (v := (474214787188 : Int64)) h dX12_isOwn_26 cl12_204 ?_
      refine j_lcmp h dX12_isOwn_29 ?_
      refine j_if_eq (tgt := 209) h dX12_isOwn_30 (by decide) (fun c3 => ?_) (fun c3 => ?_)
      · refine j_iconst (v := (1 : Int32)) h dX12_isOwn_209 kiconst_1 ?_
        refine j_goto (tgt := 214) h dX12_isOwn_210 (by decide) ?_
        exact j_zretB h rfl rfl dX12_isOwn_214
      · refine j_aload_n h dX12_isOwn_33 rfl ?_
        refine gM_9 h dX12_isOwn_34 ?_
        refine j_ldc2 (v := (448445441893 : Int64)) h dX12_isOwn_37 cl12_206 ?_
        refine j_lcmp h dX12_isOwn_40 ?_
        refine j_if_eq (tgt := 209) h dX12_isOwn_41 (by decide) (fun c4 => ?_) (fun c4 => ?_)
        · refine j_iconst (v := (1 : Int32)) h dX12_isOwn_209 kiconst_1 ?_
          refine j_goto (tgt := 214) h dX12_isOwn_210 (by decide) ?_
          exact j_zretB h rfl rfl dX12_isOwn_214
        · refine j_aload_n h dX12_isOwn_44 rfl ?_
          refine gM_9 h dX12_isOwn_45 ?_
          refine j_ldc2 (v := (1835361652 : Int64)) h dX12_isOwn_48 cl12_208 ?_
          refine j_lcmp h dX12_isOwn_51 ?_
          refine j_if_eq (tgt := 209) h dX12_isOwn_52 (by decide) (fun c5 => ?_) (fun c5 => ?_)
          · refine j_iconst (v := (1 : Int32)) h dX12_isOwn_209 kiconst_1 ?_
            refine j_goto (tgt := 214) h dX12_isOwn_210 (by decide) ?_
            exact j_zretB h rfl rfl dX12_isOwn_214
          · refine j_aload_n h dX12_isOwn_55 rfl ?_
            refine gM_9 h dX12_isOwn_56 ?_
            refine j_ldc2 (v := (448546566771 : Int64)) h dX12_isOwn_59 cl12_210 ?_
            refine j_lcmp h dX12_isOwn_62 ?_
            refine j_if_eq (tgt := 209) h dX12_isOwn_63 (by decide) (fun c6 => ?_) (fun c6 => ?_)
            · refine j_iconst (v := (1 : Int32)) h dX12_isOwn_209 kiconst_1 ?_
              refine j_goto (tgt := 214) h dX12_isOwn_210 (by decide) ?_
              exact j_zretB h rfl rfl dX12_isOwn_214
            · refine j_aload_n h dX12_isOwn_66 rfl ?_
              refine gM_9 h dX12_isOwn_67 ?_
              refine j_ldc2 (v := (512970880104 : Int64)) h dX12_isOwn_70 cl12_212 ?_
              refine j_lcmp h dX12_isOwn_73 ?_
              refine j_if_eq (tgt := 209) h dX12_isOwn_74 (by decide) (fun c7 => ?_) (fun c7 => ?_)
              · refine j_iconst (v := (1 : Int32)) h dX12_isOwn_209 kiconst_1 ?_
                refine j_goto (tgt := 214) h dX12_isOwn_210 (by decide) ?_
                exact j_zretB h rfl rfl dX12_isOwn_214
              · refine j_aload_n h dX12_isOwn_77 rfl ?_
                refine gM_9 h dX12_isOwn_78 ?_
                refine j_ldc2 (v := (474315584357 : Int64)) h dX12_isOwn_81 cl12_214 ?_
                refine j_lcmp h dX12_isOwn_84 ?_
                refine j_if_eq (tgt := 209) h dX12_isOwn_85 (by decide) (fun c8 => ?_) (fun c8 => ?_)
                · refine j_iconst (v := (1 : Int32)) h dX12_isOwn_209 kiconst_1 ?_
                  refine j_goto (tgt := 214) h dX12_isOwn_210 (by decide) ?_
                  exact j_zretB h rfl rfl dX12_isOwn_214
                · refine j_aload_n h dX12_isOwn_88 rfl ?_
                  refine gM_9 h dX12_isOwn_89 ?_
                  refine j_ldc2 (v := (1819243876 : Int64)) h dX12_isOwn_92 cl12_216 ?_
                  refine j_lcmp h dX12_isOwn_95 ?_
                  refine j_if_eq (tgt := 209) h dX12_isOwn_96 (by decide) (fun c9 => ?_) (fun c9 => ?_)
                  · refine j_iconst (v := (1 : Int32)) h dX12_isOwn_209 kiconst_1 ?_
                    refine j_goto (tgt := 214) h dX12_isOwn_210 (by decide) ?_
                    exact j_zretB h rfl rfl dX12_isOwn_214
                  · refine j_aload_n h dX12_isOwn_99 rfl ?_
                    refine gM_9 h dX12_isOwn_100 ?_
                    refine j_ldc2 (v := (33602636119176556 : Int64)) h dX12_isOwn_103 cl12_218 ?_
                    refine j_lcmp h dX12_isOwn_106 ?_
                    refine j_if_eq (tgt := 209) h dX12_isOwn_107 (by decide) (fun c10 => ?_) (fun c10 => ?_)
                    · refine j_iconst (v := (1 : Int32)) h dX12_isOwn_209 kiconst_1 ?_
                      refine j_goto (tgt := 214) h dX12_isOwn_210 (by decide) ?_
                      exact j_zretB h rfl rfl dX12_isOwn_214
                    · refine j_aload_n h dX12_isOwn_110 rfl ?_
                      refine gM_9 h dX12_isOwn_111 ?_
                      refine j_ldc2 (v := (1684109166 : Int64)) h dX12_isOwn_114 cl12_220 ?_
                      refine j_lcmp h dX12_isOwn_117 ?_
                      refine j_if_eq (tgt := 209) h dX12_isOwn_118 (by decide) (fun c11 => ?_) (fun c11 => ?_)
                      · refine j_iconst (v := (1 : Int32)) h dX12_isOwn_209 kiconst_1 ?_
                        refine j_goto (tgt := 214) h dX12_isOwn_210 (by decide) ?_
                        exact j_zretB h rfl rfl dX12_isOwn_214
                      · refine j_aload_n h dX12_isOwn_121 rfl ?_
                        refine gM_9 h dX12_isOwn_122 ?_
                        refine j_ldc2 (v := (1685418859 : Int64)) h dX12_isOwn_125 cl12_222 ?_
                        refine j_lcmp h dX12_isOwn_128 ?_
                        refine j_if_eq (tgt := 209) h dX12_isOwn_129 (by decide) (fun c12 => ?_) (fun c12 => ?_)
                        · refine j_iconst (v := (1 : Int32)) h dX12_isOwn_209 kiconst_1 ?_
                          refine j_goto (tgt := 214) h dX12_isOwn_210 (by decide) ?_
                          exact j_zretB h rfl rfl dX12_isOwn_214
                        · refine j_aload_n h dX12_isOwn_132 rfl ?_
                          refine gM_9 h dX12_isOwn_133 ?_
                          refine j_ldc2 (v := (1751216749 : Int64)) h dX12_isOwn_136 cl12_224 ?_
                          refine j_lcmp h dX12_isOwn_139 ?_
                          refine j_if_eq (tgt := 209) h dX12_isOwn_140 (by decide) (fun c13 => ?_) (fun c13 => ?_)
                          · refine j_iconst (v := (1 : Int32)) h dX12_isOwn_209 kiconst_1 ?_
                            refine j_goto (tgt := 214) h dX12_isOwn_210 (by decide) ?_
                            exact j_zretB h rfl rfl dX12_isOwn_214
                          · refine j_aload_n h dX12_isOwn_143 rfl ?_
                            refine gM_9 h dX12_isOwn_144 ?_
                            refine j_ldc2 (v := (1684108389 : Int64)) h dX12_isOwn_147 cl12_226 ?_
                            refine j_lcmp h dX12_isOwn_150 ?_
                            refine j_if_eq (tgt := 209) h dX12_isOwn_151 (by decide) (fun c14 => ?_) (fun c14 => ?_)
                            · refine j_iconst (v := (1 : Int32)) h dX12_isOwn_209 kiconst_1 ?_
                              refine j_goto (tgt := 214) h dX12_isOwn_210 (by decide) ?_
                              exact j_zretB h rfl rfl dX12_isOwn_214
                            · refine j_aload_n h dX12_isOwn_154 rfl ?_
                              refine gM_9 h dX12_isOwn_155 ?_
                              refine j_ldc2 (v := (1752135026 : Int64)) h dX12_isOwn_158 cl12_228 ?_
                              refine j_lcmp h dX12_isOwn_161 ?_
                              refine j_if_eq (tgt := 209) h dX12_isOwn_162 (by decide) (fun c15 => ?_) (fun c15 => ?_)
                              · refine j_iconst (v := (1 : Int32)) h dX12_isOwn_209 kiconst_1 ?_
                                refine j_goto (tgt := 214) h dX12_isOwn_210 (by decide) ?_
                                exact j_zretB h rfl rfl dX12_isOwn_214
                              · refine j_aload_n h dX12_isOwn_165 rfl ?_
                                refine gM_9 h dX12_isOwn_166 ?_
                                refine j_ldc2 (v := (6709618 : Int64)) h dX12_isOwn_169 cl12_230 ?_
                                refine j_lcmp h dX12_isOwn_172 ?_
                                refine j_if_eq (tgt := 209) h dX12_isOwn_173 (by decide) (fun c16 => ?_) (fun c16 => ?_)
                                · refine j_iconst (v := (1 : Int32)) h dX12_isOwn_209 kiconst_1 ?_
                                  refine j_goto (tgt := 214) h dX12_isOwn_210 (by decide) ?_
                                  exact j_zretB h rfl rfl dX12_isOwn_214
                                · refine j_aload_n h dX12_isOwn_176 rfl ?_
                                  refine gM_9 h dX12_isOwn_177 ?_
                                  refine j_ldc2 (v := (6385252 : Int64)) h dX12_isOwn_180 cl12_232 ?_
                                  refine j_lcmp h dX12_isOwn_183 ?_
                                  refine j_if_eq (tgt := 209) h dX12_isOwn_184 (by decide) (fun c17 => ?_) (fun c17 => ?_)
                                  · refine j_iconst (v := (1 : Int32)) h dX12_isOwn_209 kiconst_1 ?_
                                    refine j_goto (tgt := 214) h dX12_isOwn_210 (by decide) ?_
                                    exact j_zretB h rfl rfl dX12_isOwn_214
                                  · refine j_aload_n h dX12_isOwn_187 rfl ?_
                                    refine gM_9 h dX12_isOwn_188 ?_
                                    refine j_ldc2 (v := (28530 : Int64)) h dX12_isOwn_191 cl12_234 ?_
                                    refine j_lcmp h dX12_isOwn_194 ?_
                                    refine j_if_eq (tgt := 209) h dX12_isOwn_195 (by decide) (fun c18 => ?_) (fun c18 => ?_)
                                    · refine j_iconst (v := (1 : Int32)) h dX12_isOwn_209 kiconst_1 ?_
                                      refine j_goto (tgt := 214) h dX12_isOwn_210 (by decide) ?_
                                      exact j_zretB h rfl rfl dX12_isOwn_214
                                    · refine j_aload_n h dX12_isOwn_198 rfl ?_
                                      refine gM_9 h dX12_isOwn_199 ?_
                                      refine j_ldc2 (v := (7237492 : Int64)) h dX12_isOwn_202 cl12_236 ?_
                                      refine j_lcmp h dX12_isOwn_205 ?_
                                      refine j_if_ne (tgt := 213) h dX12_isOwn_206 (by decide) (fun c19 => ?_) (fun c19 => ?_)
                                      · refine j_iconst (v := (0 : Int32)) h dX12_isOwn_213 kiconst_0 ?_
                                        exact j_zretB h rfl rfl dX12_isOwn_214
                                      · refine j_iconst (v := (1 : Int32)) h dX12_isOwn_209 kiconst_1 ?_
                                        refine j_goto (tgt := 214) h dX12_isOwn_210 (by decide) ?_
                                        exact j_zretB h rfl rfl dX12_isOwn_214
theorem dX12_isName_0 : DD cX12_isName 0 (.aload_n 0) 1 1 := ⟨by decide +kernel, rfl⟩
theorem dX12_isName_1 : DD cX12_isName 1 (.getfield 184) 3 4 := ⟨by decide +kernel, rfl⟩
theorem dX12_isName_4 : DD cX12_isName 4 (.iconst 1) 1 5 := ⟨by decide +kernel, rfl⟩
theorem dX12_isName_5 : DD cX12_isName 5 (.if_icmp .ne 14) 3 8 := ⟨by decide +kernel, rfl⟩
theorem dX12_isName_8 : DD cX12_isName 8 (.aload_n 0) 1 9 := ⟨by decide +kernel, rfl⟩
theorem dX12_isName_9 : DD cX12_isName 9 (.invokevirtual 238) 3 12 := ⟨by decide +kernel, rfl⟩
theorem dX12_isName_12 : DD cX12_isName 12 (.ifCond .ne 7) 3 15 := ⟨by decide +kernel, rfl⟩
theorem dX12_isName_15 : DD cX12_isName 15 (.iconst 1) 1 16 := ⟨by decide +kernel, rfl⟩
theorem dX12_isName_16 : DD cX12_isName 16 (.goto 4) 3 19 := ⟨by decide +kernel, rfl⟩
theorem dX12_isName_19 : DD cX12_isName 19 (.iconst 0) 1 20 := ⟨by decide +kernel, rfl⟩
theorem dX12_isName_20 : DD cX12_isName 20 (.ireturn) 1 21 := ⟨by decide +kernel, rfl⟩
def fX12_isName (m : Mem) : Option Int32 := (if (m.1 0 6) = (1 : Int32) then (cP (fX12_isOwn m) fun r2 => (if r2 = 0 then (some (1 : Int32)) else (some (0 : Int32)))) else (some (0 : Int32)))
set_option maxHeartbeats 4000000 in
set_option maxRecDepth 100000 in
theorem kX12_isName (l : Launch) (G : Gt) (hD : ∀ m, va_D (inA G nM) (wM G m)) (m : Mem) : ∀ a, fX12_isName m = some a → Ct l G wM nM yX12_isName cX12_isName 1 (some .boolean) 2 [.ref (G.2.2 0)] m ((cvP m) a) := by
  refine ct_of (own := RX12) (ls0 := [some (.ref (G.2.2 0))]) (by decide) rfl rfl rfl (Nat.le_of_ble_eq_true rfl) hD (fun X h => ?_) l
  unfold fX12_isName
  refine j_aload_n h dX12_isName_0 rfl ?_
  refine gM_6 h dX12_isName_1 ?_
  refine j_iconst (v := (1 : Int32)) h dX12_isName_4 kiconst_1 ?_
  refine j_icmp_ne (tgt := 19) h dX12_isName_5 (by decide) (fun c1 => ?_) (fun c1 => ?_)
  · refine j_iconst (v := (0 : Int32)) h dX12_isName_19 kiconst_0 ?_
    exact j_zretB h rfl rfl dX12_isName_20
  · refine j_aload_n h dX12_isName_8 rfl ?_
    refine j_callVP (q0 := 0) (ci := 12) h [] (kX12_isOwn _ G h.2.2.2.2.2.2.2.2.2.2 m) okX12_isOwn inX12_isOwn ml12_238 rfl rfl rfl rfl (by decide) (by decide) (Nat.le_of_ble_eq_true rfl) rfl dX12_isName_9 (fun r2 hr2 => ?_)
    refine j_if_ne (tgt := 19) h dX12_isName_12 (by decide) (fun c4 => ?_) (fun c4 => ?_)
    · refine j_iconst (v := (0 : Int32)) h dX12_isName_19 kiconst_0 ?_
      exact j_zretB h rfl rfl dX12_isName_20
    · refine j_iconst (v := (1 : Int32)) h dX12_isName_15 kiconst_1 ?_
      refine j_goto (tgt := 20) h dX12_isName_16 (by decide) ?_
      exact j_zretB h rfl rfl dX12_isName_20
theorem dX12_want_0 : DD cX12_want 0 (.aload_n 0) 1 1 := ⟨by decide +kernel, rfl⟩
theorem dX12_want_1 : DD cX12_want 1 (.getfield 197) 3 4 := ⟨by decide +kernel, rfl⟩
theorem dX12_want_4 : DD cX12_want 4 (.ifCond .le 4) 3 7 := ⟨by decide +kernel, rfl⟩
theorem dX12_want_7 : DD cX12_want 7 (.return_) 1 8 := ⟨by decide +kernel, rfl⟩
theorem dX12_want_8 : DD cX12_want 8 (.aload_n 0) 1 9 := ⟨by decide +kernel, rfl⟩
theorem dX12_want_9 : DD cX12_want 9 (.lload_n 1) 1 10 := ⟨by decide +kernel, rfl⟩
theorem dX12_want_10 : DD cX12_want 10 (.invokevirtual 242) 3 13 := ⟨by decide +kernel, rfl⟩
theorem dX12_want_13 : DD cX12_want 13 (.ifCond .ne 11) 3 16 := ⟨by decide +kernel, rfl⟩
theorem dX12_want_16 : DD cX12_want 16 (.aload_n 0) 1 17 := ⟨by decide +kernel, rfl⟩
theorem dX12_want_17 : DD cX12_want 17 (.iconst 2) 1 18 := ⟨by decide +kernel, rfl⟩
theorem dX12_want_18 : DD cX12_want 18 (.invokevirtual 246) 3 21 := ⟨by decide +kernel, rfl⟩
theorem dX12_want_21 : DD cX12_want 21 (.goto 7) 3 24 := ⟨by decide +kernel, rfl⟩
theorem dX12_want_24 : DD cX12_want 24 (.aload_n 0) 1 25 := ⟨by decide +kernel, rfl⟩
theorem dX12_want_25 : DD cX12_want 25 (.invokevirtual 249) 3 28 := ⟨by decide +kernel, rfl⟩
theorem dX12_want_28 : DD cX12_want 28 (.return_) 1 29 := ⟨by decide +kernel, rfl⟩
def fX12_want (m : Mem) (x1 : Int64) : Option Mem := (if (m.1 0 2) ≤ 0 then (cP (fX12_isWord m x1) fun r2 => (if r2 = 0 then (cV (fX12_wrong m (2 : Int32)) fun m8 => (some m8)) else (cV (fX12_token m) fun m6 => (some m6)))) else (some m))
set_option maxHeartbeats 4000000 in
set_option maxRecDepth 100000 in
theorem kX12_want (l : Launch) (G : Gt) (hD : ∀ m, va_D (inA G nM) (wM G m)) (m : Mem) (x1 : Int64) : ∀ a, fX12_want m x1 = some a → Ct l G wM nM yX12_want cX12_want 3 none 3 [.ref (G.2.2 0), .long x1] m (cvV a) := by
  refine ct_of (own := RX12) (ls0 := [some (.ref (G.2.2 0)), some (.long x1), none]) (by decide) rfl rfl rfl (Nat.le_of_ble_eq_true rfl) hD (fun X h => ?_) l
  unfold fX12_want
  refine j_aload_n h dX12_want_0 rfl ?_
  refine gM_2 h dX12_want_1 ?_
  refine j_if_le (tgt := 8) h dX12_want_4 (by decide) (fun c1 => ?_) (fun c1 => ?_)
  · refine j_aload_n h dX12_want_8 rfl ?_
    refine j_lload_n h dX12_want_9 rfl ?_
    refine j_callVP (q0 := 0) (ci := 12) h [.long x1] (kX12_isWord _ G h.2.2.2.2.2.2.2.2.2.2 m x1) okX12_isWord inX12_isWord ml12_242 rfl rfl rfl rfl (by decide) (by decide) (Nat.le_of_ble_eq_true rfl) rfl dX12_want_10 (fun r2 hr2 => ?_)
    refine j_if_ne (tgt := 24) h dX12_want_13 (by decide) (fun c4 => ?_) (fun c4 => ?_)
    · refine j_aload_n h dX12_want_24 rfl ?_
      refine j_callVV (q0 := 0) (ci := 12) h [] (kX12_token _ G h.2.2.2.2.2.2.2.2.2.2 m) okX12_token inX12_token ml12_249 rfl rfl rfl rfl (by decide) (by decide) (Nat.le_of_ble_eq_true rfl) rfl dX12_want_25 (fun m6 hm6 => ?_)
      exact j_vret h rfl dX12_want_28
    · refine j_aload_n h dX12_want_16 rfl ?_
      refine j_iconst (v := (2 : Int32)) h dX12_want_17 kiconst_2 ?_
      refine j_callVV (q0 := 0) (ci := 12) h [.int (2 : Int32)] (kX12_wrong _ G h.2.2.2.2.2.2.2.2.2.2 m (2 : Int32)) okX12_wrong inX12_wrong ml12_246 rfl rfl rfl rfl (by decide) (by decide) (Nat.le_of_ble_eq_true rfl) rfl dX12_want_18 (fun m8 hm8 => ?_)
      refine j_goto (tgt := 28) h dX12_want_21 (by decide) ?_
      exact j_vret h rfl dX12_want_28
  · exact j_vret h rfl dX12_want_7
theorem dX12_toldNumber_0 : DD cX12_toldNumber 0 (.aload_n 0) 1 1 := ⟨by decide +kernel, rfl⟩
theorem dX12_toldNumber_1 : DD cX12_toldNumber 1 (.getfield 197) 3 4 := ⟨by decide +kernel, rfl⟩
theorem dX12_toldNumber_4 : DD cX12_toldNumber 4 (.ifCond .le 5) 3 7 := ⟨by decide +kernel, rfl⟩
theorem dX12_toldNumber_7 : DD cX12_toldNumber 7 (.iconst 0) 1 8 := ⟨by decide +kernel, rfl⟩
theorem dX12_toldNumber_8 : DD cX12_toldNumber 8 (.ireturn) 1 9 := ⟨by decide +kernel, rfl⟩
theorem dX12_toldNumber_9 : DD cX12_toldNumber 9 (.aload_n 0) 1 10 := ⟨by decide +kernel, rfl⟩
theorem dX12_toldNumber_10 : DD cX12_toldNumber 10 (.getfield 184) 3 13 := ⟨by decide +kernel, rfl⟩
theorem dX12_toldNumber_13 : DD cX12_toldNumber 13 (.iconst 2) 1 14 := ⟨by decide +kernel, rfl⟩
theorem dX12_toldNumber_14 : DD cX12_toldNumber 14 (.if_icmp .eq 11) 3 17 := ⟨by decide +kernel, rfl⟩
theorem dX12_toldNumber_17 : DD cX12_toldNumber 17 (.aload_n 0) 1 18 := ⟨by decide +kernel, rfl⟩
theorem dX12_toldNumber_18 : DD cX12_toldNumber 18 (.iconst 2) 1 19 := ⟨by decide +kernel, rfl⟩
theorem dX12_toldNumber_19 : DD cX12_toldNumber 19 (.invokevirtual 246) 3 22 := ⟨by decide +kernel, rfl⟩
theorem dX12_toldNumber_22 : DD cX12_toldNumber 22 (.goto 24) 3 25 := ⟨by decide +kernel, rfl⟩
theorem dX12_toldNumber_25 : DD cX12_toldNumber 25 (.aload_n 0) 1 26 := ⟨by decide +kernel, rfl⟩
theorem dX12_toldNumber_26 : DD cX12_toldNumber 26 (.getfield 181) 3 29 := ⟨by decide +kernel, rfl⟩
theorem dX12_toldNumber_29 : DD cX12_toldNumber 29 (.iload_n 1) 1 30 := ⟨by decide +kernel, rfl⟩
theorem dX12_toldNumber_30 : DD cX12_toldNumber 30 (.if_icmp .lt 11) 3 33 := ⟨by decide +kernel, rfl⟩
theorem dX12_toldNumber_33 : DD cX12_toldNumber 33 (.aload_n 0) 1 34 := ⟨by decide +kernel, rfl⟩
theorem dX12_toldNumber_34 : DD cX12_toldNumber 34 (.getfield 181) 3 37 := ⟨by decide +kernel, rfl⟩
theorem dX12_toldNumber_37 : DD cX12_toldNumber 37 (.iload_n 2) 1 38 := ⟨by decide +kernel, rfl⟩
theorem dX12_toldNumber_38 : DD cX12_toldNumber 38 (.if_icmp .le 8) 3 41 := ⟨by decide +kernel, rfl⟩
theorem dX12_toldNumber_41 : DD cX12_toldNumber 41 (.aload_n 0) 1 42 := ⟨by decide +kernel, rfl⟩
theorem dX12_toldNumber_42 : DD cX12_toldNumber 42 (.iconst 4) 1 43 := ⟨by decide +kernel, rfl⟩
theorem dX12_toldNumber_43 : DD cX12_toldNumber 43 (.invokevirtual 246) 3 46 := ⟨by decide +kernel, rfl⟩
theorem dX12_toldNumber_46 : DD cX12_toldNumber 46 (.aload_n 0) 1 47 := ⟨by decide +kernel, rfl⟩
theorem dX12_toldNumber_47 : DD cX12_toldNumber 47 (.getfield 181) 3 50 := ⟨by decide +kernel, rfl⟩
theorem dX12_toldNumber_50 : DD cX12_toldNumber 50 (.istore_n 3) 1 51 := ⟨by decide +kernel, rfl⟩
theorem dX12_toldNumber_51 : DD cX12_toldNumber 51 (.aload_n 0) 1 52 := ⟨by decide +kernel, rfl⟩
theorem dX12_toldNumber_52 : DD cX12_toldNumber 52 (.getfield 197) 3 55 := ⟨by decide +kernel, rfl⟩
theorem dX12_toldNumber_55 : DD cX12_toldNumber 55 (.ifCond .ne 7) 3 58 := ⟨by decide +kernel, rfl⟩
theorem dX12_toldNumber_58 : DD cX12_toldNumber 58 (.aload_n 0) 1 59 := ⟨by decide +kernel, rfl⟩
theorem dX12_toldNumber_59 : DD cX12_toldNumber 59 (.invokevirtual 249) 3 62 := ⟨by decide +kernel, rfl⟩
theorem dX12_toldNumber_62 : DD cX12_toldNumber 62 (.iload_n 3) 1 63 := ⟨by decide +kernel, rfl⟩
theorem dX12_toldNumber_63 : DD cX12_toldNumber 63 (.ireturn) 1 64 := ⟨by decide +kernel, rfl⟩
def fX12_toldNumber (m : Mem) (x1 : Int32) (x2 : Int32) : Option (Int32 × Mem) := (if (m.1 0 2) ≤ 0 then (if (m.1 0 6) = (2 : Int32) then (if (m.1 0 8) < x1 then (cV (fX12_wrong m (4 : Int32)) fun m5 => (nm (m5.1 0 8) fun v6 => (if (m5.1 0 2) = 0 then (cV (fX12_token m5) fun m9 => (some (v6, m9))) else (some (v6, m5))))) else (if (m.1 0 8) ≤ x2 then (nm (m.1 0 8) fun v11 => (if (m.1 0 2) = 0 then (cV (fX12_token m) fun m14 => (some (v11, m14))) else (some (v11, m)))) else (cV (fX12_wrong m (4 : Int32)) fun m16 => (nm (m16.1 0 8) fun v17 => (if (m16.1 0 2) = 0 then (cV (fX12_token m16) fun m20 => (some (v17, m20))) else (some (v17, m16))))))) else (cV (fX12_wrong m (2 : Int32)) fun m22 => (nm (m22.1 0 8) fun v23 => (if (m22.1 0 2) = 0 then (cV (fX12_token m22) fun m26 => (some (v23, m26))) else (some (v23, m22)))))) else (some ((0 : Int32), m)))
set_option maxHeartbeats 4000000 in
set_option maxRecDepth 100000 in
theorem kX12_toldNumber (l : Launch) (G : Gt) (hD : ∀ m, va_D (inA G nM) (wM G m)) (m : Mem) (x1 : Int32) (x2 : Int32) : ∀ a, fX12_toldNumber m x1 x2 = some a → Ct l G wM nM yX12_toldNumber cX12_toldNumber 4 (some .int) 3 [.ref (G.2.2 0), .int x1, .int x2] m (cvI a) := by
  refine ct_of (own := RX12) (ls0 := [some (.ref (G.2.2 0)), some (.int x1), some (.int x2), none]) (by decide) rfl rfl rfl (Nat.le_of_ble_eq_true rfl) hD (fun X h => ?_) l
  unfold fX12_toldNumber
  refine j_aload_n h dX12_toldNumber_0 rfl ?_
  refine gM_2 h dX12_toldNumber_1 ?_
  refine j_if_le (tgt := 9) h dX12_toldNumber_4 (by decide) (fun c1 => ?_) (fun c1 => ?_)
  · refine j_aload_n h dX12_toldNumber_9 rfl ?_
    refine gM_6 h dX12_toldNumber_10 ?_
    refine j_iconst (v := (2 : Int32)) h dX12_toldNumber_13 kiconst_2 ?_
    refine j_icmp_eq (tgt := 25) h dX12_toldNumber_14 (by decide) (fun c2 => ?_) (fun c2 => ?_)
    · refine j_aload_n h dX12_toldNumber_25 rfl ?_
      refine gM_8 h dX12_toldNumber_26 ?_
      refine j_iload_n h dX12_toldNumber_29 rfl ?_
      refine j_icmp_lt (tgt := 41) h dX12_toldNumber_30 (by decide) (fun c3 => ?_) (fun c3 => ?_)
      · refine j_aload_n h dX12_toldNumber_41 rfl ?_
        refine j_iconst (v := (4 : Int32)) h dX12_toldNumber_42 kiconst_4 ?_
        refine j_callVV (q0 := 0) (ci := 12) h [.int (4 : Int32)] (kX12_wrong _ G h.2.2.2.2.2.2.2.2.2.2 m (4 : Int32)) okX12_wrong inX12_wrong ml12_246 rfl rfl rfl rfl (by decide) (by decide) (Nat.le_of_ble_eq_true rfl) rfl dX12_toldNumber_43 (fun m5 hm5 => ?_)
        refine j_aload_n h dX12_toldNumber_46 rfl ?_
        refine gM_8 h dX12_toldNumber_47 ?_
        refine j_nm (fun v6 hv6 => ?_)
        refine j_istore_n h dX12_toldNumber_50 rfl rfl ?_
        refine j_aload_n h dX12_toldNumber_51 rfl ?_
        refine gM_2 h dX12_toldNumber_52 ?_
        refine j_if_ne (tgt := 62) h dX12_toldNumber_55 (by decide) (fun c7 => ?_) (fun c7 => ?_)
        · refine j_iload_n h dX12_toldNumber_62 rfl ?_
          exact j_iret h rfl dX12_toldNumber_63
        · refine j_aload_n h dX12_toldNumber_58 rfl ?_
          refine j_callVV (q0 := 0) (ci := 12) h [] (kX12_token _ G h.2.2.2.2.2.2.2.2.2.2 m5) okX12_token inX12_token ml12_249 rfl rfl rfl rfl (by decide) (by decide) (Nat.le_of_ble_eq_true rfl) rfl dX12_toldNumber_59 (fun m9 hm9 => ?_)
          refine j_iload_n h dX12_toldNumber_62 rfl ?_
          exact j_iret h rfl dX12_toldNumber_63
      · refine j_aload_n h dX12_toldNumber_33 rfl ?_
        refine gM_8 h dX12_toldNumber_34 ?_
        refine j_iload_n h dX12_toldNumber_37 rfl ?_
        refine j_icmp_le (tgt := 46) h dX12_toldNumber_38 (by decide) (fun c10 => ?_) (fun c10 => ?_)
        · refine j_aload_n h dX12_toldNumber_46 rfl ?_
          refine gM_8 h dX12_toldNumber_47 ?_
          refine j_nm (fun v11 hv11 => ?_)
          refine j_istore_n h dX12_toldNumber_50 rfl rfl ?_
          refine j_aload_n h dX12_toldNumber_51 rfl ?_
          refine gM_2 h dX12_toldNumber_52 ?_
          refine j_if_ne (tgt := 62) h dX12_toldNumber_55 (by decide) (fun c12 => ?_) (fun c12 => ?_)
          · refine j_iload_n h dX12_toldNumber_62 rfl ?_
            exact j_iret h rfl dX12_toldNumber_63
          · refine j_aload_n h dX12_toldNumber_58 rfl ?_
            refine j_callVV (q0 := 0) (ci := 12) h [] (kX12_token _ G h.2.2.2.2.2.2.2.2.2.2 m) okX12_token inX12_token ml12_249 rfl rfl rfl rfl (by decide) (by decide) (Nat.le_of_ble_eq_true rfl) rfl dX12_toldNumber_59 (fun m14 hm14 => ?_)
            refine j_iload_n h dX12_toldNumber_62 rfl ?_
            exact j_iret h rfl dX12_toldNumber_63
        · refine j_aload_n h dX12_toldNumber_41 rfl ?_
          refine j_iconst (v := (4 : Int32)) h dX12_toldNumber_42 kiconst_4 ?_
          refine j_callVV (q0 := 0) (ci := 12) h [.int (4 : Int32)] (kX12_wrong _ G h.2.2.2.2.2.2.2.2.2.2 m (4 : Int32)) okX12_wrong inX12_wrong ml12_246 rfl rfl rfl rfl (by decide) (by decide) (Nat.le_of_ble_eq_true rfl) rfl dX12_toldNumber_43 (fun m16 hm16 => ?_)
          refine j_aload_n h dX12_toldNumber_46 rfl ?_
          refine gM_8 h dX12_toldNumber_47 ?_
          refine j_nm (fun v17 hv17 => ?_)
          refine j_istore_n h dX12_toldNumber_50 rfl rfl ?_
          refine j_aload_n h dX12_toldNumber_51 rfl ?_
          refine gM_2 h dX12_toldNumber_52 ?_
          refine j_if_ne (tgt := 62) h dX12_toldNumber_55 (by decide) (fun c18 => ?_) (fun c18 => ?_)
          · refine j_iload_n h dX12_toldNumber_62 rfl ?_
            exact j_iret h rfl dX12_toldNumber_63
          · refine j_aload_n h dX12_toldNumber_58 rfl ?_
            refine j_callVV (q0 := 0) (ci := 12) h [] (kX12_token _ G h.2.2.2.2.2.2.2.2.2.2 m16) okX12_token inX12_token ml12_249 rfl rfl rfl rfl (by decide) (by decide) (Nat.le_of_ble_eq_true rfl) rfl dX12_toldNumber_59 (fun m20 hm20 => ?_)
            refine j_iload_n h dX12_toldNumber_62 rfl ?_
            exact j_iret h rfl dX12_toldNumber_63
    · refine j_aload_n h dX12_toldNumber_17 rfl ?_
      refine j_iconst (v := (2 : Int32)) h dX12_toldNumber_18 kiconst_2 ?_
      refine j_callVV (q0 := 0) (ci := 12) h [.int (2 : Int32)] (kX12_wrong _ G h.2.2.2.2.2.2.2.2.2.2 m (2 : Int32)) okX12_wrong inX12_wrong ml12_246 rfl rfl rfl rfl (by decide) (by decide) (Nat.le_of_ble_eq_true rfl) rfl dX12_toldNumber_19 (fun m22 hm22 => ?_)
      refine j_goto (tgt := 46) h dX12_toldNumber_22 (by decide) ?_
      refine j_aload_n h dX12_toldNumber_46 rfl ?_
      refine gM_8 h dX12_toldNumber_47 ?_
      refine j_nm (fun v23 hv23 => ?_)
      refine j_istore_n h dX12_toldNumber_50 rfl rfl ?_
      refine j_aload_n h dX12_toldNumber_51 rfl ?_
      refine gM_2 h dX12_toldNumber_52 ?_
      refine j_if_ne (tgt := 62) h dX12_toldNumber_55 (by decide) (fun c24 => ?_) (fun c24 => ?_)
      · refine j_iload_n h dX12_toldNumber_62 rfl ?_
        exact j_iret h rfl dX12_toldNumber_63
      · refine j_aload_n h dX12_toldNumber_58 rfl ?_
        refine j_callVV (q0 := 0) (ci := 12) h [] (kX12_token _ G h.2.2.2.2.2.2.2.2.2.2 m22) okX12_token inX12_token ml12_249 rfl rfl rfl rfl (by decide) (by decide) (Nat.le_of_ble_eq_true rfl) rfl dX12_toldNumber_59 (fun m26 hm26 => ?_)
        refine j_iload_n h dX12_toldNumber_62 rfl ?_
        exact j_iret h rfl dX12_toldNumber_63
  · refine j_iconst (v := (0 : Int32)) h dX12_toldNumber_7 kiconst_0 ?_
    exact j_iret h rfl dX12_toldNumber_8
theorem dX12_told_0 : DD cX12_told 0 (.aload_n 0) 1 1 := ⟨by decide +kernel, rfl⟩
theorem dX12_told_1 : DD cX12_told 1 (.lload_n 1) 1 2 := ⟨by decide +kernel, rfl⟩
theorem dX12_told_2 : DD cX12_told 2 (.invokevirtual 252) 3 5 := ⟨by decide +kernel, rfl⟩
theorem dX12_told_5 : DD cX12_told 5 (.aload_n 0) 1 6 := ⟨by decide +kernel, rfl⟩
theorem dX12_told_6 : DD cX12_told 6 (.iload_n 3) 1 7 := ⟨by decide +kernel, rfl⟩
theorem dX12_told_7 : DD cX12_told 7 (.iload 4) 2 9 := ⟨by decide +kernel, rfl⟩
theorem dX12_told_9 : DD cX12_told 9 (.invokevirtual 256) 3 12 := ⟨by decide +kernel, rfl⟩
theorem dX12_told_12 : DD cX12_told 12 (.ireturn) 1 13 := ⟨by decide +kernel, rfl⟩
def fX12_told (m : Mem) (x1 : Int64) (x3 : Int32) (x4 : Int32) : Option (Int32 × Mem) := (cV (fX12_want m x1) fun m2 => (cI (fX12_toldNumber m2 x3 x4) fun r3 m4 => (some (r3, m4))))
set_option maxHeartbeats 4000000 in
set_option maxRecDepth 100000 in
theorem kX12_told (l : Launch) (G : Gt) (hD : ∀ m, va_D (inA G nM) (wM G m)) (m : Mem) (x1 : Int64) (x3 : Int32) (x4 : Int32) : ∀ a, fX12_told m x1 x3 x4 = some a → Ct l G wM nM yX12_told cX12_told 5 (some .int) 4 [.ref (G.2.2 0), .long x1, .int x3, .int x4] m (cvI a) := by
  refine ct_of (own := RX12) (ls0 := [some (.ref (G.2.2 0)), some (.long x1), none, some (.int x3), some (.int x4)]) (by decide) rfl rfl rfl (Nat.le_of_ble_eq_true rfl) hD (fun X h => ?_) l
  unfold fX12_told
  refine j_aload_n h dX12_told_0 rfl ?_
  refine j_lload_n h dX12_told_1 rfl ?_
  refine j_callVV (q0 := 0) (ci := 12) h [.long x1] (kX12_want _ G h.2.2.2.2.2.2.2.2.2.2 m x1) okX12_want inX12_want ml12_252 rfl rfl rfl rfl (by decide) (by decide) (Nat.le_of_ble_eq_true rfl) rfl dX12_told_2 (fun m2 hm2 => ?_)
  refine j_aload_n h dX12_told_5 rfl ?_
  refine j_iload_n h dX12_told_6 rfl ?_
  refine j_iload h dX12_told_7 rfl ?_
  refine j_callVI (q0 := 0) (ci := 12) h [.int x3, .int x4] (kX12_toldNumber _ G h.2.2.2.2.2.2.2.2.2.2 m2 x3 x4) okX12_toldNumber inX12_toldNumber ml12_256 rfl rfl rfl rfl (by decide) (by decide) (Nat.le_of_ble_eq_true rfl) rfl dX12_told_9 (fun r3 m4 hr3 => ?_)
  exact j_iret h rfl dX12_told_12
theorem dX12_find_0 : DD cX12_find 0 (.iconst (-1)) 1 1 := ⟨by decide +kernel, rfl⟩
theorem dX12_find_1 : DD cX12_find 1 (.istore_n 1) 1 2 := ⟨by decide +kernel, rfl⟩
theorem dX12_find_2 : DD cX12_find 2 (.iconst 0) 1 3 := ⟨by decide +kernel, rfl⟩
theorem dX12_find_3 : DD cX12_find 3 (.istore_n 2) 1 4 := ⟨by decide +kernel, rfl⟩
theorem dX12_find_4 : DD cX12_find 4 (.iload_n 2) 1 5 := ⟨by decide +kernel, rfl⟩
theorem dX12_find_5 : DD cX12_find 5 (.aload_n 0) 1 6 := ⟨by decide +kernel, rfl⟩
theorem dX12_find_6 : DD cX12_find 6 (.getfield 260) 3 9 := ⟨by decide +kernel, rfl⟩
theorem dX12_find_9 : DD cX12_find 9 (.if_icmp .ge 29) 3 12 := ⟨by decide +kernel, rfl⟩
theorem dX12_find_12 : DD cX12_find 12 (.aload_n 0) 1 13 := ⟨by decide +kernel, rfl⟩
theorem dX12_find_13 : DD cX12_find 13 (.getfield 17) 3 16 := ⟨by decide +kernel, rfl⟩
theorem dX12_find_16 : DD cX12_find 16 (.iload_n 2) 1 17 := ⟨by decide +kernel, rfl⟩
theorem dX12_find_17 : DD cX12_find 17 (.laload) 1 18 := ⟨by decide +kernel, rfl⟩
theorem dX12_find_18 : DD cX12_find 18 (.aload_n 0) 1 19 := ⟨by decide +kernel, rfl⟩
theorem dX12_find_19 : DD cX12_find 19 (.getfield 177) 3 22 := ⟨by decide +kernel, rfl⟩
theorem dX12_find_22 : DD cX12_find 22 (.lcmp) 1 23 := ⟨by decide +kernel, rfl⟩
theorem dX12_find_23 : DD cX12_find 23 (.ifCond .ne 7) 3 26 := ⟨by decide +kernel, rfl⟩
theorem dX12_find_26 : DD cX12_find 26 (.iload_n 2) 1 27 := ⟨by decide +kernel, rfl⟩
theorem dX12_find_27 : DD cX12_find 27 (.goto 4) 3 30 := ⟨by decide +kernel, rfl⟩
theorem dX12_find_30 : DD cX12_find 30 (.iload_n 1) 1 31 := ⟨by decide +kernel, rfl⟩
theorem dX12_find_31 : DD cX12_find 31 (.istore_n 1) 1 32 := ⟨by decide +kernel, rfl⟩
theorem dX12_find_32 : DD cX12_find 32 (.iinc 2 1) 3 35 := ⟨by decide +kernel, rfl⟩
theorem dX12_find_35 : DD cX12_find 35 (.goto (-31)) 3 38 := ⟨by decide +kernel, rfl⟩
theorem dX12_find_38 : DD cX12_find 38 (.iload_n 1) 1 39 := ⟨by decide +kernel, rfl⟩
theorem dX12_find_39 : DD cX12_find 39 (.ireturn) 1 40 := ⟨by decide +kernel, rfl⟩
def gX12_find (m : Mem) : Nat → Int32 → Int32 → Option Int32
  | 0, _, _ => none
  | f + 1, x1, x2 => (if (m.1 0 47) ≤ x2 then (some x1) else (rdL (m.2.1 2) 7 x2 fun v2 => (if (lg_cmp v2 (m.2.1 0 9)) = 0 then (gX12_find m f x2 (x2 + (1 : Int32))) else (gX12_find m f x1 (x2 + (1 : Int32))))))
def fX12_find (m : Mem) : Option Int32 := (gX12_find m 5000 (-1 : Int32) (0 : Int32))
set_option maxHeartbeats 4000000 in
set_option maxRecDepth 100000 in
theorem wX12_find {X : Cx} {G : Gt} (h : OkX (X, G, wM, nM) cX12_find RX12 3 (some .int) 1) (m : Mem) : ∀ f : Nat, (∀ (x1 : Int32) (x2 : Int32), JR (X, G, wM, nM) (cvP m) m 4 [some (.ref (G.2.2 0)), some (.int x1), some (.int x2)] [] (gX12_find m f x1 x2)) := by
  intro f
  induction f with
  | zero => exact (fun _ _ => j_none)
  | succ f ih =>
    intro x1 x2
    rw [gX12_find]
    refine j_iload_n h dX12_find_4 rfl ?_
    refine j_aload_n h dX12_find_5 rfl ?_
    refine gM_47 h dX12_find_6 ?_
    refine j_icmp_ge (tgt := 38) h dX12_find_9 (by decide) (fun c1 => ?_) (fun c1 => ?_)
    · refine j_iload_n h dX12_find_38 rfl ?_
      exact j_iret h rfl dX12_find_39
    · refine j_aload_n h dX12_find_12 rfl ?_
      refine gM_10 h dX12_find_13 ?_
      refine j_iload_n h dX12_find_16 rfl ?_
      refine aM_2 h dX12_find_17 (fun v2 hv2 => ?_)
      refine j_aload_n h dX12_find_18 rfl ?_
      refine gM_9 h dX12_find_19 ?_
      refine j_lcmp h dX12_find_22 ?_
      refine j_if_ne (tgt := 30) h dX12_find_23 (by decide) (fun c3 => ?_) (fun c3 => ?_)
      · refine j_iload_n h dX12_find_30 rfl ?_
        refine j_istore_n h dX12_find_31 rfl rfl ?_
        refine j_iinc (v := (x2 + (1 : Int32))) h dX12_find_32 rfl (by rw [kiconst_1]) rfl ?_
        refine j_goto (tgt := 4) h dX12_find_35 (by decide) ?_
        refine j_wk (ls' := [some (.ref (G.2.2 0)), some (.int x1), some (.int (x2 + (1 : Int32)))]) (And.intro rfl (And.intro rfl (And.intro rfl trivial))) ?_
        exact ih x1 (x2 + (1 : Int32))
      · refine j_iload_n h dX12_find_26 rfl ?_
        refine j_goto (tgt := 31) h dX12_find_27 (by decide) ?_
        refine j_istore_n h dX12_find_31 rfl rfl ?_
        refine j_iinc (v := (x2 + (1 : Int32))) h dX12_find_32 rfl (by rw [kiconst_1]) rfl ?_
        refine j_goto (tgt := 4) h dX12_find_35 (by decide) ?_
        refine j_wk (ls' := [some (.ref (G.2.2 0)), some (.int x2), some (.int (x2 + (1 : Int32)))]) (And.intro rfl (And.intro rfl (And.intro rfl trivial))) ?_
        exact ih x2 (x2 + (1 : Int32))
set_option maxHeartbeats 4000000 in
set_option maxRecDepth 100000 in
theorem kX12_find (l : Launch) (G : Gt) (hD : ∀ m, va_D (inA G nM) (wM G m)) (m : Mem) : ∀ a, fX12_find m = some a → Ct l G wM nM yX12_find cX12_find 3 (some .int) 1 [.ref (G.2.2 0)] m ((cvP m) a) := by
  refine ct_of (own := RX12) (ls0 := [some (.ref (G.2.2 0)), none, none]) (by decide) rfl rfl rfl (Nat.le_of_ble_eq_true rfl) hD (fun X h => ?_) l
  unfold fX12_find
  refine j_iconst (v := (-1 : Int32)) h dX12_find_0 kiconst_m1 ?_
  refine j_istore_n h dX12_find_1 rfl rfl ?_
  refine j_iconst (v := (0 : Int32)) h dX12_find_2 kiconst_0 ?_
  refine j_istore_n h dX12_find_3 rfl rfl ?_
  refine j_wk (ls' := [some (.ref (G.2.2 0)), some (.int (-1 : Int32)), some (.int (0 : Int32))]) (And.intro rfl (And.intro rfl (And.intro rfl trivial))) ?_
  exact (wX12_find h m 5000) (-1 : Int32) (0 : Int32)
theorem dX12_oldPerson_0 : DD cX12_oldPerson 0 (.aload_n 0) 1 1 := ⟨by decide +kernel, rfl⟩
theorem dX12_oldPerson_1 : DD cX12_oldPerson 1 (.getfield 197) 3 4 := ⟨by decide +kernel, rfl⟩
theorem dX12_oldPerson_4 : DD cX12_oldPerson 4 (.ifCond .le 5) 3 7 := ⟨by decide +kernel, rfl⟩
theorem dX12_oldPerson_7 : DD cX12_oldPerson 7 (.iconst 0) 1 8 := ⟨by decide +kernel, rfl⟩
theorem dX12_oldPerson_8 : DD cX12_oldPerson 8 (.ireturn) 1 9 := ⟨by decide +kernel, rfl⟩
theorem dX12_oldPerson_9 : DD cX12_oldPerson 9 (.aload_n 0) 1 10 := ⟨by decide +kernel, rfl⟩
theorem dX12_oldPerson_10 : DD cX12_oldPerson 10 (.invokevirtual 263) 3 13 := ⟨by decide +kernel, rfl⟩
theorem dX12_oldPerson_13 : DD cX12_oldPerson 13 (.ifCond .ne 11) 3 16 := ⟨by decide +kernel, rfl⟩
theorem dX12_oldPerson_16 : DD cX12_oldPerson 16 (.aload_n 0) 1 17 := ⟨by decide +kernel, rfl⟩
theorem dX12_oldPerson_17 : DD cX12_oldPerson 17 (.iconst 2) 1 18 := ⟨by decide +kernel, rfl⟩
theorem dX12_oldPerson_18 : DD cX12_oldPerson 18 (.invokevirtual 246) 3 21 := ⟨by decide +kernel, rfl⟩
theorem dX12_oldPerson_21 : DD cX12_oldPerson 21 (.goto 15) 3 24 := ⟨by decide +kernel, rfl⟩
theorem dX12_oldPerson_24 : DD cX12_oldPerson 24 (.aload_n 0) 1 25 := ⟨by decide +kernel, rfl⟩
theorem dX12_oldPerson_25 : DD cX12_oldPerson 25 (.invokevirtual 266) 3 28 := ⟨by decide +kernel, rfl⟩
theorem dX12_oldPerson_28 : DD cX12_oldPerson 28 (.ifCond .ge 8) 3 31 := ⟨by decide +kernel, rfl⟩
theorem dX12_oldPerson_31 : DD cX12_oldPerson 31 (.aload_n 0) 1 32 := ⟨by decide +kernel, rfl⟩
theorem dX12_oldPerson_32 : DD cX12_oldPerson 32 (.iconst 5) 1 33 := ⟨by decide +kernel, rfl⟩
theorem dX12_oldPerson_33 : DD cX12_oldPerson 33 (.invokevirtual 246) 3 36 := ⟨by decide +kernel, rfl⟩
theorem dX12_oldPerson_36 : DD cX12_oldPerson 36 (.aload_n 0) 1 37 := ⟨by decide +kernel, rfl⟩
theorem dX12_oldPerson_37 : DD cX12_oldPerson 37 (.getfield 197) 3 40 := ⟨by decide +kernel, rfl⟩
theorem dX12_oldPerson_40 : DD cX12_oldPerson 40 (.ifCond .le 7) 3 43 := ⟨by decide +kernel, rfl⟩
theorem dX12_oldPerson_43 : DD cX12_oldPerson 43 (.iconst 0) 1 44 := ⟨by decide +kernel, rfl⟩
theorem dX12_oldPerson_44 : DD cX12_oldPerson 44 (.goto 7) 3 47 := ⟨by decide +kernel, rfl⟩
theorem dX12_oldPerson_47 : DD cX12_oldPerson 47 (.aload_n 0) 1 48 := ⟨by decide +kernel, rfl⟩
theorem dX12_oldPerson_48 : DD cX12_oldPerson 48 (.invokevirtual 266) 3 51 := ⟨by decide +kernel, rfl⟩
theorem dX12_oldPerson_51 : DD cX12_oldPerson 51 (.ireturn) 1 52 := ⟨by decide +kernel, rfl⟩
def fX12_oldPerson (m : Mem) : Option (Int32 × Mem) := (if (m.1 0 2) ≤ 0 then (cP (fX12_isName m) fun r2 => (if r2 = 0 then (cV (fX12_wrong m (2 : Int32)) fun m17 => (if (m17.1 0 2) ≤ 0 then (cP (fX12_find m17) fun r19 => (some (r19, m17))) else (some ((0 : Int32), m17)))) else (cP (fX12_find m) fun r5 => (if 0 ≤ r5 then (if (m.1 0 2) ≤ 0 then (cP (fX12_find m) fun r9 => (some (r9, m))) else (some ((0 : Int32), m))) else (cV (fX12_wrong m (5 : Int32)) fun m12 => (if (m12.1 0 2) ≤ 0 then (cP (fX12_find m12) fun r14 => (some (r14, m12))) else (some ((0 : Int32), m12)))))))) else (some ((0 : Int32), m)))
set_option maxHeartbeats 4000000 in
set_option maxRecDepth 100000 in
theorem kX12_oldPerson (l : Launch) (G : Gt) (hD : ∀ m, va_D (inA G nM) (wM G m)) (m : Mem) : ∀ a, fX12_oldPerson m = some a → Ct l G wM nM yX12_oldPerson cX12_oldPerson 1 (some .int) 3 [.ref (G.2.2 0)] m (cvI a) := by
  refine ct_of (own := RX12) (ls0 := [some (.ref (G.2.2 0))]) (by decide) rfl rfl rfl (Nat.le_of_ble_eq_true rfl) hD (fun X h => ?_) l
  unfold fX12_oldPerson
  refine j_aload_n h dX12_oldPerson_0 rfl ?_
  refine gM_2 h dX12_oldPerson_1 ?_
  refine j_if_le (tgt := 9) h dX12_oldPerson_4 (by decide) (fun c1 => ?_) (fun c1 => ?_)
  · refine j_aload_n h dX12_oldPerson_9 rfl ?_
    refine j_callVP (q0 := 0) (ci := 12) h [] (kX12_isName _ G h.2.2.2.2.2.2.2.2.2.2 m) okX12_isName inX12_isName ml12_263 rfl rfl rfl rfl (by decide) (by decide) (Nat.le_of_ble_eq_true rfl) rfl dX12_oldPerson_10 (fun r2 hr2 => ?_)
    refine j_if_ne (tgt := 24) h dX12_oldPerson_13 (by decide) (fun c4 => ?_) (fun c4 => ?_)
    · refine j_aload_n h dX12_oldPerson_24 rfl ?_
      refine j_callVP (q0 := 0) (ci := 12) h [] (kX12_find _ G h.2.2.2.2.2.2.2.2.2.2 m) okX12_find inX12_find ml12_266 rfl rfl rfl rfl (by decide) (by decide) (Nat.le_of_ble_eq_true rfl) rfl dX12_oldPerson_25 (fun r5 hr5 => ?_)
      refine j_if_ge (tgt := 36) h dX12_oldPerson_28 (by decide) (fun c7 => ?_) (fun c7 => ?_)
      · refine j_aload_n h dX12_oldPerson_36 rfl ?_
        refine gM_2 h dX12_oldPerson_37 ?_
        refine j_if_le (tgt := 47) h dX12_oldPerson_40 (by decide) (fun c8 => ?_) (fun c8 => ?_)
        · refine j_aload_n h dX12_oldPerson_47 rfl ?_
          refine j_callVP (q0 := 0) (ci := 12) h [] (kX12_find _ G h.2.2.2.2.2.2.2.2.2.2 m) okX12_find inX12_find ml12_266 rfl rfl rfl rfl (by decide) (by decide) (Nat.le_of_ble_eq_true rfl) rfl dX12_oldPerson_48 (fun r9 hr9 => ?_)
          exact j_iret h rfl dX12_oldPerson_51
        · refine j_iconst (v := (0 : Int32)) h dX12_oldPerson_43 kiconst_0 ?_
          refine j_goto (tgt := 51) h dX12_oldPerson_44 (by decide) ?_
          exact j_iret h rfl dX12_oldPerson_51
      · refine j_aload_n h dX12_oldPerson_31 rfl ?_
        refine j_iconst (v := (5 : Int32)) h dX12_oldPerson_32 kiconst_5 ?_
        refine j_callVV (q0 := 0) (ci := 12) h [.int (5 : Int32)] (kX12_wrong _ G h.2.2.2.2.2.2.2.2.2.2 m (5 : Int32)) okX12_wrong inX12_wrong ml12_246 rfl rfl rfl rfl (by decide) (by decide) (Nat.le_of_ble_eq_true rfl) rfl dX12_oldPerson_33 (fun m12 hm12 => ?_)
        refine j_aload_n h dX12_oldPerson_36 rfl ?_
        refine gM_2 h dX12_oldPerson_37 ?_
        refine j_if_le (tgt := 47) h dX12_oldPerson_40 (by decide) (fun c13 => ?_) (fun c13 => ?_)
        · refine j_aload_n h dX12_oldPerson_47 rfl ?_
          refine j_callVP (q0 := 0) (ci := 12) h [] (kX12_find _ G h.2.2.2.2.2.2.2.2.2.2 m12) okX12_find inX12_find ml12_266 rfl rfl rfl rfl (by decide) (by decide) (Nat.le_of_ble_eq_true rfl) rfl dX12_oldPerson_48 (fun r14 hr14 => ?_)
          exact j_iret h rfl dX12_oldPerson_51
        · refine j_iconst (v := (0 : Int32)) h dX12_oldPerson_43 kiconst_0 ?_
          refine j_goto (tgt := 51) h dX12_oldPerson_44 (by decide) ?_
          exact j_iret h rfl dX12_oldPerson_51
    · refine j_aload_n h dX12_oldPerson_16 rfl ?_
      refine j_iconst (v := (2 : Int32)) h dX12_oldPerson_17 kiconst_2 ?_
      refine j_callVV (q0 := 0) (ci := 12) h [.int (2 : Int32)] (kX12_wrong _ G h.2.2.2.2.2.2.2.2.2.2 m (2 : Int32)) okX12_wrong inX12_wrong ml12_246 rfl rfl rfl rfl (by decide) (by decide) (Nat.le_of_ble_eq_true rfl) rfl dX12_oldPerson_18 (fun m17 hm17 => ?_)
      refine j_goto (tgt := 36) h dX12_oldPerson_21 (by decide) ?_
      refine j_aload_n h dX12_oldPerson_36 rfl ?_
      refine gM_2 h dX12_oldPerson_37 ?_
      refine j_if_le (tgt := 47) h dX12_oldPerson_40 (by decide) (fun c18 => ?_) (fun c18 => ?_)
      · refine j_aload_n h dX12_oldPerson_47 rfl ?_
        refine j_callVP (q0 := 0) (ci := 12) h [] (kX12_find _ G h.2.2.2.2.2.2.2.2.2.2 m17) okX12_find inX12_find ml12_266 rfl rfl rfl rfl (by decide) (by decide) (Nat.le_of_ble_eq_true rfl) rfl dX12_oldPerson_48 (fun r19 hr19 => ?_)
        exact j_iret h rfl dX12_oldPerson_51
      · refine j_iconst (v := (0 : Int32)) h dX12_oldPerson_43 kiconst_0 ?_
        refine j_goto (tgt := 51) h dX12_oldPerson_44 (by decide) ?_
        exact j_iret h rfl dX12_oldPerson_51
  · refine j_iconst (v := (0 : Int32)) h dX12_oldPerson_7 kiconst_0 ?_
    exact j_iret h rfl dX12_oldPerson_8
end
