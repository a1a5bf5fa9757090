section
-- ===== PART A: goes FIRST, ahead of the names: the tables' words, and 'selects' of the private methods out of them =====
/-- a private method of a class that the tables say can be made, by its rows of tables_1 -/
def lw_okq (q : MethodName × Nat) : Prop := (q.1.cls ≠ "java/lang/invoke/MethodHandle" ∧ q.1.cls ≠ "java/lang/invoke/VarHandle") ∧ Cond.instantiable q.1.cls q.2 ∈ tables_1 ∧ Cond.privateMethod q.1 ∈ tables_1 ∧ Cond.instanceMethod q.1 ∈ tables_1
theorem lw_p0 : lw_okq (⟨"HingeTown$Tape", "isLetterAt", "(I)Z"⟩, 8) := ⟨⟨by decide +kernel, by decide +kernel⟩, List.mem_of_getElem? (i := 32) (by decide +kernel), List.mem_of_getElem? (i := 556) (by decide +kernel), List.mem_of_getElem? (i := 557) (by decide +kernel)⟩
theorem lw_p1 : lw_okq (⟨"HingeTown$Tape", "readWord", "()V"⟩, 8) := ⟨⟨by decide +kernel, by decide +kernel⟩, List.mem_of_getElem? (i := 32) (by decide +kernel), List.mem_of_getElem? (i := 560) (by decide +kernel), List.mem_of_getElem? (i := 561) (by decide +kernel)⟩
theorem lw_p2 : lw_okq (⟨"HingeTown$Tape", "isDigitAt", "(I)Z"⟩, 8) := ⟨⟨by decide +kernel, by decide +kernel⟩, List.mem_of_getElem? (i := 32) (by decide +kernel), List.mem_of_getElem? (i := 564) (by decide +kernel), List.mem_of_getElem? (i := 565) (by decide +kernel)⟩
theorem lw_p3 : lw_okq (⟨"HingeTown$Tape", "readNumber", "()V"⟩, 8) := ⟨⟨by decide +kernel, by decide +kernel⟩, List.mem_of_getElem? (i := 32) (by decide +kernel), List.mem_of_getElem? (i := 568) (by decide +kernel), List.mem_of_getElem? (i := 569) (by decide +kernel)⟩
theorem lw_p4 : lw_okq (⟨"HingeTown$Reader", "readPerson", "()Z"⟩, 6) := ⟨⟨by decide +kernel, by decide +kernel⟩, List.mem_of_getElem? (i := 124) (by decide +kernel), List.mem_of_getElem? (i := 632) (by decide +kernel), List.mem_of_getElem? (i := 633) (by decide +kernel)⟩
theorem lw_p5 : lw_okq (⟨"HingeTown$Reader", "refuse", "(I)Z"⟩, 6) := ⟨⟨by decide +kernel, by decide +kernel⟩, List.mem_of_getElem? (i := 124) (by decide +kernel), List.mem_of_getElem? (i := 636) (by decide +kernel), List.mem_of_getElem? (i := 637) (by decide +kernel)⟩
theorem lw_p6 : lw_okq (⟨"HingeTown$Reader", "isNumberBehind", "(III)Z"⟩, 6) := ⟨⟨by decide +kernel, by decide +kernel⟩, List.mem_of_getElem? (i := 124) (by decide +kernel), List.mem_of_getElem? (i := 645) (by decide +kernel), List.mem_of_getElem? (i := 646) (by decide +kernel)⟩
theorem lw_p7 : lw_okq (⟨"HingeTown$Reader", "pass", "(I)Z"⟩, 6) := ⟨⟨by decide +kernel, by decide +kernel⟩, List.mem_of_getElem? (i := 124) (by decide +kernel), List.mem_of_getElem? (i := 649) (by decide +kernel), List.mem_of_getElem? (i := 650) (by decide +kernel)⟩
theorem lw_p8 : lw_okq (⟨"HingeTown$Reader", "isNumberHere", "(II)Z"⟩, 6) := ⟨⟨by decide +kernel, by decide +kernel⟩, List.mem_of_getElem? (i := 124) (by decide +kernel), List.mem_of_getElem? (i := 653) (by decide +kernel), List.mem_of_getElem? (i := 654) (by decide +kernel)⟩
theorem lw_p9 : lw_okq (⟨"HingeTown$Reader", "readSide", "()I"⟩, 6) := ⟨⟨by decide +kernel, by decide +kernel⟩, List.mem_of_getElem? (i := 124) (by decide +kernel), List.mem_of_getElem? (i := 657) (by decide +kernel), List.mem_of_getElem? (i := 658) (by decide +kernel)⟩
theorem lw_p10 : lw_okq (⟨"HingeTown$Reader", "readMeet", "()Z"⟩, 6) := ⟨⟨by decide +kernel, by decide +kernel⟩, List.mem_of_getElem? (i := 124) (by decide +kernel), List.mem_of_getElem? (i := 661) (by decide +kernel), List.mem_of_getElem? (i := 662) (by decide +kernel)⟩
theorem lw_p11 : lw_okq (⟨"HingeTown$Reader", "personHere", "()I"⟩, 6) := ⟨⟨by decide +kernel, by decide +kernel⟩, List.mem_of_getElem? (i := 124) (by decide +kernel), List.mem_of_getElem? (i := 665) (by decide +kernel), List.mem_of_getElem? (i := 666) (by decide +kernel)⟩
theorem lw_p12 : lw_okq (⟨"HingeTown$Reader", "readNoise", "()Z"⟩, 6) := ⟨⟨by decide +kernel, by decide +kernel⟩, List.mem_of_getElem? (i := 124) (by decide +kernel), List.mem_of_getElem? (i := 677) (by decide +kernel), List.mem_of_getElem? (i := 678) (by decide +kernel)⟩
theorem lw_p13 : lw_okq (⟨"HingeTown$Reader", "readWakeful", "()Z"⟩, 6) := ⟨⟨by decide +kernel, by decide +kernel⟩, List.mem_of_getElem? (i := 124) (by decide +kernel), List.mem_of_getElem? (i := 685) (by decide +kernel), List.mem_of_getElem? (i := 686) (by decide +kernel)⟩
theorem lw_p14 : lw_okq (⟨"HingeTown$Reader", "readFormula", "(LHingeTown$Formula;)Z"⟩, 6) := ⟨⟨by decide +kernel, by decide +kernel⟩, List.mem_of_getElem? (i := 124) (by decide +kernel), List.mem_of_getElem? (i := 689) (by decide +kernel), List.mem_of_getElem? (i := 690) (by decide +kernel)⟩
theorem lw_p15 : lw_okq (⟨"HingeTown$Reader", "readEither", "(I)Z"⟩, 6) := ⟨⟨by decide +kernel, by decide +kernel⟩, List.mem_of_getElem? (i := 124) (by decide +kernel), List.mem_of_getElem? (i := 693) (by decide +kernel), List.mem_of_getElem? (i := 694) (by decide +kernel)⟩
def lw_privs_1 : List (MethodName × Nat) := [(⟨"HingeTown$Tape", "isLetterAt", "(I)Z"⟩, 8), (⟨"HingeTown$Tape", "readWord", "()V"⟩, 8), (⟨"HingeTown$Tape", "isDigitAt", "(I)Z"⟩, 8), (⟨"HingeTown$Tape", "readNumber", "()V"⟩, 8), (⟨"HingeTown$Reader", "readPerson", "()Z"⟩, 6), (⟨"HingeTown$Reader", "refuse", "(I)Z"⟩, 6), (⟨"HingeTown$Reader", "isNumberBehind", "(III)Z"⟩, 6), (⟨"HingeTown$Reader", "pass", "(I)Z"⟩, 6), (⟨"HingeTown$Reader", "isNumberHere", "(II)Z"⟩, 6), (⟨"HingeTown$Reader", "readSide", "()I"⟩, 6), (⟨"HingeTown$Reader", "readMeet", "()Z"⟩, 6), (⟨"HingeTown$Reader", "personHere", "()I"⟩, 6), (⟨"HingeTown$Reader", "readNoise", "()Z"⟩, 6), (⟨"HingeTown$Reader", "readWakeful", "()Z"⟩, 6), (⟨"HingeTown$Reader", "readFormula", "(LHingeTown$Formula;)Z"⟩, 6), (⟨"HingeTown$Reader", "readEither", "(I)Z"⟩, 6)]
theorem lw_r1 : ∀ q ∈ lw_privs_1, lw_okq q := List.forall_mem_cons.mpr ⟨lw_p0, List.forall_mem_cons.mpr ⟨lw_p1, List.forall_mem_cons.mpr ⟨lw_p2, List.forall_mem_cons.mpr ⟨lw_p3, List.forall_mem_cons.mpr ⟨lw_p4, List.forall_mem_cons.mpr ⟨lw_p5, List.forall_mem_cons.mpr ⟨lw_p6, List.forall_mem_cons.mpr ⟨lw_p7, List.forall_mem_cons.mpr ⟨lw_p8, List.forall_mem_cons.mpr ⟨lw_p9, List.forall_mem_cons.mpr ⟨lw_p10, List.forall_mem_cons.mpr ⟨lw_p11, List.forall_mem_cons.mpr ⟨lw_p12, List.forall_mem_cons.mpr ⟨lw_p13, List.forall_mem_cons.mpr ⟨lw_p14, List.forall_mem_cons.mpr ⟨lw_p15, fun _ h => absurd h List.not_mem_nil⟩⟩⟩⟩⟩⟩⟩⟩⟩⟩⟩⟩⟩⟩⟩⟩
theorem lw_p16 : lw_okq (⟨"HingeTown$Reader", "readBoth", "(I)Z"⟩, 6) := ⟨⟨by decide +kernel, by decide +kernel⟩, List.mem_of_getElem? (i := 124) (by decide +kernel), List.mem_of_getElem? (i := 697) (by decide +kernel), List.mem_of_getElem? (i := 698) (by decide +kernel)⟩
theorem lw_p17 : lw_okq (⟨"HingeTown$Reader", "readOne", "(I)Z"⟩, 6) := ⟨⟨by decide +kernel, by decide +kernel⟩, List.mem_of_getElem? (i := 124) (by decide +kernel), List.mem_of_getElem? (i := 701) (by decide +kernel), List.mem_of_getElem? (i := 702) (by decide +kernel)⟩
theorem lw_p18 : lw_okq (⟨"HingeTown$Reader", "readRelation", "(I)Z"⟩, 6) := ⟨⟨by decide +kernel, by decide +kernel⟩, List.mem_of_getElem? (i := 124) (by decide +kernel), List.mem_of_getElem? (i := 705) (by decide +kernel), List.mem_of_getElem? (i := 706) (by decide +kernel)⟩
theorem lw_p19 : lw_okq (⟨"HingeTown$Reader", "readSum", "(I)Z"⟩, 6) := ⟨⟨by decide +kernel, by decide +kernel⟩, List.mem_of_getElem? (i := 124) (by decide +kernel), List.mem_of_getElem? (i := 709) (by decide +kernel), List.mem_of_getElem? (i := 710) (by decide +kernel)⟩
theorem lw_p20 : lw_okq (⟨"HingeTown$Reader", "readTerm", "(I)Z"⟩, 6) := ⟨⟨by decide +kernel, by decide +kernel⟩, List.mem_of_getElem? (i := 124) (by decide +kernel), List.mem_of_getElem? (i := 713) (by decide +kernel), List.mem_of_getElem? (i := 714) (by decide +kernel)⟩
theorem lw_p21 : lw_okq (⟨"HingeTown$Reader", "readUnit", "(I)Z"⟩, 6) := ⟨⟨by decide +kernel, by decide +kernel⟩, List.mem_of_getElem? (i := 124) (by decide +kernel), List.mem_of_getElem? (i := 717) (by decide +kernel), List.mem_of_getElem? (i := 718) (by decide +kernel)⟩
theorem lw_p22 : lw_okq (⟨"HingeTown$Reader", "givenHere", "()I"⟩, 6) := ⟨⟨by decide +kernel, by decide +kernel⟩, List.mem_of_getElem? (i := 124) (by decide +kernel), List.mem_of_getElem? (i := 721) (by decide +kernel), List.mem_of_getElem? (i := 722) (by decide +kernel)⟩
theorem lw_p23 : lw_okq (⟨"HingeTown$Reader", "factorHere", "()I"⟩, 6) := ⟨⟨by decide +kernel, by decide +kernel⟩, List.mem_of_getElem? (i := 124) (by decide +kernel), List.mem_of_getElem? (i := 729) (by decide +kernel), List.mem_of_getElem? (i := 730) (by decide +kernel)⟩
theorem lw_p24 : lw_okq (⟨"HingeTown$Reader", "relationHere", "()I"⟩, 6) := ⟨⟨by decide +kernel, by decide +kernel⟩, List.mem_of_getElem? (i := 124) (by decide +kernel), List.mem_of_getElem? (i := 733) (by decide +kernel), List.mem_of_getElem? (i := 734) (by decide +kernel)⟩
theorem lw_p25 : lw_okq (⟨"HingeTown$Reader", "readDate", "()Z"⟩, 6) := ⟨⟨by decide +kernel, by decide +kernel⟩, List.mem_of_getElem? (i := 124) (by decide +kernel), List.mem_of_getElem? (i := 737) (by decide +kernel), List.mem_of_getElem? (i := 738) (by decide +kernel)⟩
theorem lw_p26 : lw_okq (⟨"HingeTown$Street", "reckonSun", "(I)I"⟩, 4) := ⟨⟨by decide +kernel, by decide +kernel⟩, List.mem_of_getElem? (i := 294) (by decide +kernel), List.mem_of_getElem? (i := 786) (by decide +kernel), List.mem_of_getElem? (i := 787) (by decide +kernel)⟩
theorem lw_p27 : lw_okq (⟨"HingeTown$Street", "harmOf", "(IILHingeTown$Day;)I"⟩, 4) := ⟨⟨by decide +kernel, by decide +kernel⟩, List.mem_of_getElem? (i := 294) (by decide +kernel), List.mem_of_getElem? (i := 830) (by decide +kernel), List.mem_of_getElem? (i := 831) (by decide +kernel)⟩
theorem lw_p28 : lw_okq (⟨"HingeTown$Street", "endDay", "()V"⟩, 4) := ⟨⟨by decide +kernel, by decide +kernel⟩, List.mem_of_getElem? (i := 294) (by decide +kernel), List.mem_of_getElem? (i := 918) (by decide +kernel), List.mem_of_getElem? (i := 919) (by decide +kernel)⟩
theorem lw_p29 : lw_okq (⟨"HingeTown$Street", "worthOfMeets", "(ILHingeTown$Day;)I"⟩, 4) := ⟨⟨by decide +kernel, by decide +kernel⟩, List.mem_of_getElem? (i := 294) (by decide +kernel), List.mem_of_getElem? (i := 979) (by decide +kernel), List.mem_of_getElem? (i := 980) (by decide +kernel)⟩
theorem lw_p30 : lw_okq (⟨"HingeTown$Choice", "weighMeet", "(LHingeTown$Plan;ILHingeTown$Day;)V"⟩, 7) := ⟨⟨by decide +kernel, by decide +kernel⟩, List.mem_of_getElem? (i := 412) (by decide +kernel), List.mem_of_getElem? (i := 997) (by decide +kernel), List.mem_of_getElem? (i := 998) (by decide +kernel)⟩
theorem lw_p31 : lw_okq (⟨"HingeTown$Choice", "weighNoise", "(LHingeTown$Street;IILHingeTown$Day;)V"⟩, 7) := ⟨⟨by decide +kernel, by decide +kernel⟩, List.mem_of_getElem? (i := 412) (by decide +kernel), List.mem_of_getElem? (i := 1006) (by decide +kernel), List.mem_of_getElem? (i := 1007) (by decide +kernel)⟩
def lw_privs_2 : List (MethodName × Nat) := [(⟨"HingeTown$Reader", "readBoth", "(I)Z"⟩, 6), (⟨"HingeTown$Reader", "readOne", "(I)Z"⟩, 6), (⟨"HingeTown$Reader", "readRelation", "(I)Z"⟩, 6), (⟨"HingeTown$Reader", "readSum", "(I)Z"⟩, 6), (⟨"HingeTown$Reader", "readTerm", "(I)Z"⟩, 6), (⟨"HingeTown$Reader", "readUnit", "(I)Z"⟩, 6), (⟨"HingeTown$Reader", "givenHere", "()I"⟩, 6), (⟨"HingeTown$Reader", "factorHere", "()I"⟩, 6), (⟨"HingeTown$Reader", "relationHere", "()I"⟩, 6), (⟨"HingeTown$Reader", "readDate", "()Z"⟩, 6), (⟨"HingeTown$Street", "reckonSun", "(I)I"⟩, 4), (⟨"HingeTown$Street", "harmOf", "(IILHingeTown$Day;)I"⟩, 4), (⟨"HingeTown$Street", "endDay", "()V"⟩, 4), (⟨"HingeTown$Street", "worthOfMeets", "(ILHingeTown$Day;)I"⟩, 4), (⟨"HingeTown$Choice", "weighMeet", "(LHingeTown$Plan;ILHingeTown$Day;)V"⟩, 7), (⟨"HingeTown$Choice", "weighNoise", "(LHingeTown$Street;IILHingeTown$Day;)V"⟩, 7)]
theorem lw_r2 : ∀ q ∈ lw_privs_2, lw_okq q := List.forall_mem_cons.mpr ⟨lw_p16, List.forall_mem_cons.mpr ⟨lw_p17, List.forall_mem_cons.mpr ⟨lw_p18, List.forall_mem_cons.mpr ⟨lw_p19, List.forall_mem_cons.mpr ⟨lw_p20, List.forall_mem_cons.mpr ⟨lw_p21, List.forall_mem_cons.mpr ⟨lw_p22, List.forall_mem_cons.mpr ⟨lw_p23, List.forall_mem_cons.mpr ⟨lw_p24, List.forall_mem_cons.mpr ⟨lw_p25, List.forall_mem_cons.mpr ⟨lw_p26, List.forall_mem_cons.mpr ⟨lw_p27, List.forall_mem_cons.mpr ⟨lw_p28, List.forall_mem_cons.mpr ⟨lw_p29, List.forall_mem_cons.mpr ⟨lw_p30, List.forall_mem_cons.mpr ⟨lw_p31, fun _ h => absurd h List.not_mem_nil⟩⟩⟩⟩⟩⟩⟩⟩⟩⟩⟩⟩⟩⟩⟩⟩
theorem lw_p32 : lw_okq (⟨"HingeTown$Choice", "addUpFrom", "(I)V"⟩, 7) := ⟨⟨by decide +kernel, by decide +kernel⟩, List.mem_of_getElem? (i := 412) (by decide +kernel), List.mem_of_getElem? (i := 1016) (by decide +kernel), List.mem_of_getElem? (i := 1017) (by decide +kernel)⟩
theorem lw_p33 : lw_okq (⟨"HingeTown$Choice", "nextTrial", "()I"⟩, 7) := ⟨⟨by decide +kernel, by decide +kernel⟩, List.mem_of_getElem? (i := 412) (by decide +kernel), List.mem_of_getElem? (i := 1020) (by decide +kernel), List.mem_of_getElem? (i := 1021) (by decide +kernel)⟩
theorem lw_p34 : lw_okq (⟨"HingeTown$Choice", "goRound", "([I)Z"⟩, 7) := ⟨⟨by decide +kernel, by decide +kernel⟩, List.mem_of_getElem? (i := 412) (by decide +kernel), List.mem_of_getElem? (i := 1060) (by decide +kernel), List.mem_of_getElem? (i := 1061) (by decide +kernel)⟩
theorem lw_p35 : lw_okq (⟨"HingeTown$Choice", "joyWith", "(II[I)I"⟩, 7) := ⟨⟨by decide +kernel, by decide +kernel⟩, List.mem_of_getElem? (i := 412) (by decide +kernel), List.mem_of_getElem? (i := 1064) (by decide +kernel), List.mem_of_getElem? (i := 1065) (by decide +kernel)⟩
theorem lw_p36 : lw_okq (⟨"HingeTown$Street", "hoursIf", "(ZILHingeTown$Day;)I"⟩, 4) := ⟨⟨by decide +kernel, by decide +kernel⟩, List.mem_of_getElem? (i := 294) (by decide +kernel), List.mem_of_getElem? (i := 1117) (by decide +kernel), List.mem_of_getElem? (i := 1118) (by decide +kernel)⟩
theorem lw_p37 : lw_okq (⟨"HingeTown$Street", "chancesIf", "(ZI)I"⟩, 4) := ⟨⟨by decide +kernel, by decide +kernel⟩, List.mem_of_getElem? (i := 294) (by decide +kernel), List.mem_of_getElem? (i := 1122) (by decide +kernel), List.mem_of_getElem? (i := 1123) (by decide +kernel)⟩
theorem lw_p38 : lw_okq (⟨"HingeTown$Lights", "dropAgainst", "(ILHingeTown$Plan;LHingeTown$Day;)V"⟩, 9) := ⟨⟨by decide +kernel, by decide +kernel⟩, List.mem_of_getElem? (i := 440) (by decide +kernel), List.mem_of_getElem? (i := 1172) (by decide +kernel), List.mem_of_getElem? (i := 1173) (by decide +kernel)⟩
theorem lw_p39 : lw_okq (⟨"HingeTownModel", "four", "(I)V"⟩, 75) := ⟨⟨by decide +kernel, by decide +kernel⟩, List.mem_of_getElem? (i := 1223) (by decide +kernel), List.mem_of_getElem? (i := 1459) (by decide +kernel), List.mem_of_getElem? (i := 1460) (by decide +kernel)⟩
theorem lw_p40 : lw_okq (⟨"HingeTownModel", "readAll", "()V"⟩, 75) := ⟨⟨by decide +kernel, by decide +kernel⟩, List.mem_of_getElem? (i := 1223) (by decide +kernel), List.mem_of_getElem? (i := 1471) (by decide +kernel), List.mem_of_getElem? (i := 1472) (by decide +kernel)⟩
theorem lw_p41 : lw_okq (⟨"HingeTownModel", "token", "()V"⟩, 75) := ⟨⟨by decide +kernel, by decide +kernel⟩, List.mem_of_getElem? (i := 1223) (by decide +kernel), List.mem_of_getElem? (i := 1475) (by decide +kernel), List.mem_of_getElem? (i := 1476) (by decide +kernel)⟩
theorem lw_p42 : lw_okq (⟨"HingeTownModel", "here", "(I)I"⟩, 75) := ⟨⟨by decide +kernel, by decide +kernel⟩, List.mem_of_getElem? (i := 1223) (by decide +kernel), List.mem_of_getElem? (i := 1479) (by decide +kernel), List.mem_of_getElem? (i := 1480) (by decide +kernel)⟩
theorem lw_p43 : lw_okq (⟨"HingeTownModel", "readLine", "()V"⟩, 75) := ⟨⟨by decide +kernel, by decide +kernel⟩, List.mem_of_getElem? (i := 1223) (by decide +kernel), List.mem_of_getElem? (i := 1492) (by decide +kernel), List.mem_of_getElem? (i := 1493) (by decide +kernel)⟩
theorem lw_p44 : lw_okq (⟨"HingeTownModel", "isWord", "(J)Z"⟩, 75) := ⟨⟨by decide +kernel, by decide +kernel⟩, List.mem_of_getElem? (i := 1223) (by decide +kernel), List.mem_of_getElem? (i := 1497) (by decide +kernel), List.mem_of_getElem? (i := 1498) (by decide +kernel)⟩
theorem lw_p45 : lw_okq (⟨"HingeTownModel", "readPerson", "()V"⟩, 75) := ⟨⟨by decide +kernel, by decide +kernel⟩, List.mem_of_getElem? (i := 1223) (by decide +kernel), List.mem_of_getElem? (i := 1501) (by decide +kernel), List.mem_of_getElem? (i := 1502) (by decide +kernel)⟩
theorem lw_p46 : lw_okq (⟨"HingeTownModel", "isName", "()Z"⟩, 75) := ⟨⟨by decide +kernel, by decide +kernel⟩, List.mem_of_getElem? (i := 1223) (by decide +kernel), List.mem_of_getElem? (i := 1505) (by decide +kernel), List.mem_of_getElem? (i := 1506) (by decide +kernel)⟩
theorem lw_p47 : lw_okq (⟨"HingeTownModel", "isOwn", "()Z"⟩, 75) := ⟨⟨by decide +kernel, by decide +kernel⟩, List.mem_of_getElem? (i := 1223) (by decide +kernel), List.mem_of_getElem? (i := 1509) (by decide +kernel), List.mem_of_getElem? (i := 1510) (by decide +kernel)⟩
def lw_privs_3 : List (MethodName × Nat) := [(⟨"HingeTown$Choice", "addUpFrom", "(I)V"⟩, 7), (⟨"HingeTown$Choice", "nextTrial", "()I"⟩, 7), (⟨"HingeTown$Choice", "goRound", "([I)Z"⟩, 7), (⟨"HingeTown$Choice", "joyWith", "(II[I)I"⟩, 7), (⟨"HingeTown$Street", "hoursIf", "(ZILHingeTown$Day;)I"⟩, 4), (⟨"HingeTown$Street", "chancesIf", "(ZI)I"⟩, 4), (⟨"HingeTown$Lights", "dropAgainst", "(ILHingeTown$Plan;LHingeTown$Day;)V"⟩, 9), (⟨"HingeTownModel", "four", "(I)V"⟩, 75), (⟨"HingeTownModel", "readAll", "()V"⟩, 75), (⟨"HingeTownModel", "token", "()V"⟩, 75), (⟨"HingeTownModel", "here", "(I)I"⟩, 75), (⟨"HingeTownModel", "readLine", "()V"⟩, 75), (⟨"HingeTownModel", "isWord", "(J)Z"⟩, 75), (⟨"HingeTownModel", "readPerson", "()V"⟩, 75), (⟨"HingeTownModel", "isName", "()Z"⟩, 75), (⟨"HingeTownModel", "isOwn", "()Z"⟩, 75)]
theorem lw_r3 : ∀ q ∈ lw_privs_3, lw_okq q := List.forall_mem_cons.mpr ⟨lw_p32, List.forall_mem_cons.mpr ⟨lw_p33, List.forall_mem_cons.mpr ⟨lw_p34, List.forall_mem_cons.mpr ⟨lw_p35, List.forall_mem_cons.mpr ⟨lw_p36, List.forall_mem_cons.mpr ⟨lw_p37, List.forall_mem_cons.mpr ⟨lw_p38, List.forall_mem_cons.mpr ⟨lw_p39, List.forall_mem_cons.mpr ⟨lw_p40, List.forall_mem_cons.mpr ⟨lw_p41, List.forall_mem_cons.mpr ⟨lw_p42, List.forall_mem_cons.mpr ⟨lw_p43, List.forall_mem_cons.mpr ⟨lw_p44, List.forall_mem_cons.mpr ⟨lw_p45, List.forall_mem_cons.mpr ⟨lw_p46, List.forall_mem_cons.mpr ⟨lw_p47, fun _ h => absurd h List.not_mem_nil⟩⟩⟩⟩⟩⟩⟩⟩⟩⟩⟩⟩⟩⟩⟩⟩
theorem lw_p48 : lw_okq (⟨"HingeTownModel", "wrong", "(I)V"⟩, 75) := ⟨⟨by decide +kernel, by decide +kernel⟩, List.mem_of_getElem? (i := 1223) (by decide +kernel), List.mem_of_getElem? (i := 1531) (by decide +kernel), List.mem_of_getElem? (i := 1532) (by decide +kernel)⟩
theorem lw_p49 : lw_okq (⟨"HingeTownModel", "find", "()I"⟩, 75) := ⟨⟨by decide +kernel, by decide +kernel⟩, List.mem_of_getElem? (i := 1223) (by decide +kernel), List.mem_of_getElem? (i := 1535) (by decide +kernel), List.mem_of_getElem? (i := 1536) (by decide +kernel)⟩
theorem lw_p50 : lw_okq (⟨"HingeTownModel", "told", "(JII)I"⟩, 75) := ⟨⟨by decide +kernel, by decide +kernel⟩, List.mem_of_getElem? (i := 1223) (by decide +kernel), List.mem_of_getElem? (i := 1539) (by decide +kernel), List.mem_of_getElem? (i := 1540) (by decide +kernel)⟩
theorem lw_p51 : lw_okq (⟨"HingeTownModel", "want", "(J)V"⟩, 75) := ⟨⟨by decide +kernel, by decide +kernel⟩, List.mem_of_getElem? (i := 1223) (by decide +kernel), List.mem_of_getElem? (i := 1543) (by decide +kernel), List.mem_of_getElem? (i := 1544) (by decide +kernel)⟩
theorem lw_p52 : lw_okq (⟨"HingeTownModel", "toldNumber", "(II)I"⟩, 75) := ⟨⟨by decide +kernel, by decide +kernel⟩, List.mem_of_getElem? (i := 1223) (by decide +kernel), List.mem_of_getElem? (i := 1547) (by decide +kernel), List.mem_of_getElem? (i := 1548) (by decide +kernel)⟩
theorem lw_p53 : lw_okq (⟨"HingeTownModel", "readMeet", "()V"⟩, 75) := ⟨⟨by decide +kernel, by decide +kernel⟩, List.mem_of_getElem? (i := 1223) (by decide +kernel), List.mem_of_getElem? (i := 1551) (by decide +kernel), List.mem_of_getElem? (i := 1552) (by decide +kernel)⟩
theorem lw_p54 : lw_okq (⟨"HingeTownModel", "oldPerson", "()I"⟩, 75) := ⟨⟨by decide +kernel, by decide +kernel⟩, List.mem_of_getElem? (i := 1223) (by decide +kernel), List.mem_of_getElem? (i := 1555) (by decide +kernel), List.mem_of_getElem? (i := 1556) (by decide +kernel)⟩
theorem lw_p55 : lw_okq (⟨"HingeTownModel", "isMeetTold", "(II)Z"⟩, 75) := ⟨⟨by decide +kernel, by decide +kernel⟩, List.mem_of_getElem? (i := 1223) (by decide +kernel), List.mem_of_getElem? (i := 1559) (by decide +kernel), List.mem_of_getElem? (i := 1560) (by decide +kernel)⟩
theorem lw_p56 : lw_okq (⟨"HingeTownModel", "readNoise", "()V"⟩, 75) := ⟨⟨by decide +kernel, by decide +kernel⟩, List.mem_of_getElem? (i := 1223) (by decide +kernel), List.mem_of_getElem? (i := 1563) (by decide +kernel), List.mem_of_getElem? (i := 1564) (by decide +kernel)⟩
theorem lw_p57 : lw_okq (⟨"HingeTownModel", "isNoiseTold", "(II)Z"⟩, 75) := ⟨⟨by decide +kernel, by decide +kernel⟩, List.mem_of_getElem? (i := 1223) (by decide +kernel), List.mem_of_getElem? (i := 1567) (by decide +kernel), List.mem_of_getElem? (i := 1568) (by decide +kernel)⟩
theorem lw_p58 : lw_okq (⟨"HingeTownModel", "readWakeful", "()V"⟩, 75) := ⟨⟨by decide +kernel, by decide +kernel⟩, List.mem_of_getElem? (i := 1223) (by decide +kernel), List.mem_of_getElem? (i := 1571) (by decide +kernel), List.mem_of_getElem? (i := 1572) (by decide +kernel)⟩
theorem lw_p59 : lw_okq (⟨"HingeTownModel", "formula", "(I)V"⟩, 75) := ⟨⟨by decide +kernel, by decide +kernel⟩, List.mem_of_getElem? (i := 1223) (by decide +kernel), List.mem_of_getElem? (i := 1575) (by decide +kernel), List.mem_of_getElem? (i := 1576) (by decide +kernel)⟩
theorem lw_p60 : lw_okq (⟨"HingeTownModel", "unit", "()V"⟩, 75) := ⟨⟨by decide +kernel, by decide +kernel⟩, List.mem_of_getElem? (i := 1223) (by decide +kernel), List.mem_of_getElem? (i := 1579) (by decide +kernel), List.mem_of_getElem? (i := 1580) (by decide +kernel)⟩
theorem lw_p61 : lw_okq (⟨"HingeTownModel", "mayNot", "()Z"⟩, 75) := ⟨⟨by decide +kernel, by decide +kernel⟩, List.mem_of_getElem? (i := 1223) (by decide +kernel), List.mem_of_getElem? (i := 1583) (by decide +kernel), List.mem_of_getElem? (i := 1584) (by decide +kernel)⟩
theorem lw_p62 : lw_okq (⟨"HingeTownModel", "openUp", "(I)V"⟩, 75) := ⟨⟨by decide +kernel, by decide +kernel⟩, List.mem_of_getElem? (i := 1223) (by decide +kernel), List.mem_of_getElem? (i := 1590) (by decide +kernel), List.mem_of_getElem? (i := 1591) (by decide +kernel)⟩
theorem lw_p63 : lw_okq (⟨"HingeTownModel", "isFull", "()Z"⟩, 75) := ⟨⟨by decide +kernel, by decide +kernel⟩, List.mem_of_getElem? (i := 1223) (by decide +kernel), List.mem_of_getElem? (i := 1594) (by decide +kernel), List.mem_of_getElem? (i := 1595) (by decide +kernel)⟩
def lw_privs_4 : List (MethodName × Nat) := [(⟨"HingeTownModel", "wrong", "(I)V"⟩, 75), (⟨"HingeTownModel", "find", "()I"⟩, 75), (⟨"HingeTownModel", "told", "(JII)I"⟩, 75), (⟨"HingeTownModel", "want", "(J)V"⟩, 75), (⟨"HingeTownModel", "toldNumber", "(II)I"⟩, 75), (⟨"HingeTownModel", "readMeet", "()V"⟩, 75), (⟨"HingeTownModel", "oldPerson", "()I"⟩, 75), (⟨"HingeTownModel", "isMeetTold", "(II)Z"⟩, 75), (⟨"HingeTownModel", "readNoise", "()V"⟩, 75), (⟨"HingeTownModel", "isNoiseTold", "(II)Z"⟩, 75), (⟨"HingeTownModel", "readWakeful", "()V"⟩, 75), (⟨"HingeTownModel", "formula", "(I)V"⟩, 75), (⟨"HingeTownModel", "unit", "()V"⟩, 75), (⟨"HingeTownModel", "mayNot", "()Z"⟩, 75), (⟨"HingeTownModel", "openUp", "(I)V"⟩, 75), (⟨"HingeTownModel", "isFull", "()Z"⟩, 75)]
theorem lw_r4 : ∀ q ∈ lw_privs_4, lw_okq q := List.forall_mem_cons.mpr ⟨lw_p48, List.forall_mem_cons.mpr ⟨lw_p49, List.forall_mem_cons.mpr ⟨lw_p50, List.forall_mem_cons.mpr ⟨lw_p51, List.forall_mem_cons.mpr ⟨lw_p52, List.forall_mem_cons.mpr ⟨lw_p53, List.forall_mem_cons.mpr ⟨lw_p54, List.forall_mem_cons.mpr ⟨lw_p55, List.forall_mem_cons.mpr ⟨lw_p56, List.forall_mem_cons.mpr ⟨lw_p57, List.forall_mem_cons.mpr ⟨lw_p58, List.forall_mem_cons.mpr ⟨lw_p59, List.forall_mem_cons.mpr ⟨lw_p60, List.forall_mem_cons.mpr ⟨lw_p61, List.forall_mem_cons.mpr ⟨lw_p62, List.forall_mem_cons.mpr ⟨lw_p63, fun _ h => absurd h List.not_mem_nil⟩⟩⟩⟩⟩⟩⟩⟩⟩⟩⟩⟩⟩⟩⟩⟩
theorem lw_p64 : lw_okq (⟨"HingeTownModel", "countUnit", "()V"⟩, 75) := ⟨⟨by decide +kernel, by decide +kernel⟩, List.mem_of_getElem? (i := 1223) (by decide +kernel), List.mem_of_getElem? (i := 1598) (by decide +kernel), List.mem_of_getElem? (i := 1599) (by decide +kernel)⟩
theorem lw_p65 : lw_okq (⟨"HingeTownModel", "asked", "()I"⟩, 75) := ⟨⟨by decide +kernel, by decide +kernel⟩, List.mem_of_getElem? (i := 1223) (by decide +kernel), List.mem_of_getElem? (i := 1602) (by decide +kernel), List.mem_of_getElem? (i := 1603) (by decide +kernel)⟩
theorem lw_p66 : lw_okq (⟨"HingeTownModel", "add", "(II)V"⟩, 75) := ⟨⟨by decide +kernel, by decide +kernel⟩, List.mem_of_getElem? (i := 1223) (by decide +kernel), List.mem_of_getElem? (i := 1606) (by decide +kernel), List.mem_of_getElem? (i := 1607) (by decide +kernel)⟩
theorem lw_p67 : lw_okq (⟨"HingeTownModel", "sign", "()I"⟩, 75) := ⟨⟨by decide +kernel, by decide +kernel⟩, List.mem_of_getElem? (i := 1223) (by decide +kernel), List.mem_of_getElem? (i := 1610) (by decide +kernel), List.mem_of_getElem? (i := 1611) (by decide +kernel)⟩
theorem lw_p68 : lw_okq (⟨"HingeTownModel", "hasBracket", "()Z"⟩, 75) := ⟨⟨by decide +kernel, by decide +kernel⟩, List.mem_of_getElem? (i := 1223) (by decide +kernel), List.mem_of_getElem? (i := 1614) (by decide +kernel), List.mem_of_getElem? (i := 1615) (by decide +kernel)⟩
theorem lw_p69 : lw_okq (⟨"HingeTownModel", "close", "(I)V"⟩, 75) := ⟨⟨by decide +kernel, by decide +kernel⟩, List.mem_of_getElem? (i := 1223) (by decide +kernel), List.mem_of_getElem? (i := 1618) (by decide +kernel), List.mem_of_getElem? (i := 1619) (by decide +kernel)⟩
theorem lw_p70 : lw_okq (⟨"HingeTownModel", "hasRelation", "()Z"⟩, 75) := ⟨⟨by decide +kernel, by decide +kernel⟩, List.mem_of_getElem? (i := 1223) (by decide +kernel), List.mem_of_getElem? (i := 1622) (by decide +kernel), List.mem_of_getElem? (i := 1623) (by decide +kernel)⟩
theorem lw_p71 : lw_okq (⟨"HingeTownModel", "isPerson", "(I)Z"⟩, 75) := ⟨⟨by decide +kernel, by decide +kernel⟩, List.mem_of_getElem? (i := 1223) (by decide +kernel), List.mem_of_getElem? (i := 1634) (by decide +kernel), List.mem_of_getElem? (i := 1635) (by decide +kernel)⟩
theorem lw_p72 : lw_okq (⟨"HingeTownModel", "loadDate", "(I)V"⟩, 75) := ⟨⟨by decide +kernel, by decide +kernel⟩, List.mem_of_getElem? (i := 1223) (by decide +kernel), List.mem_of_getElem? (i := 1641) (by decide +kernel), List.mem_of_getElem? (i := 1642) (by decide +kernel)⟩
theorem lw_p73 : lw_okq (⟨"HingeTownModel", "load", "()V"⟩, 75) := ⟨⟨by decide +kernel, by decide +kernel⟩, List.mem_of_getElem? (i := 1223) (by decide +kernel), List.mem_of_getElem? (i := 1645) (by decide +kernel), List.mem_of_getElem? (i := 1646) (by decide +kernel)⟩
theorem lw_p74 : lw_okq (⟨"HingeTownModel", "layDate", "(I)V"⟩, 75) := ⟨⟨by decide +kernel, by decide +kernel⟩, List.mem_of_getElem? (i := 1223) (by decide +kernel), List.mem_of_getElem? (i := 1649) (by decide +kernel), List.mem_of_getElem? (i := 1650) (by decide +kernel)⟩
theorem lw_p75 : lw_okq (⟨"HingeTownModel", "dawnOf", "(I)I"⟩, 75) := ⟨⟨by decide +kernel, by decide +kernel⟩, List.mem_of_getElem? (i := 1223) (by decide +kernel), List.mem_of_getElem? (i := 1653) (by decide +kernel), List.mem_of_getElem? (i := 1654) (by decide +kernel)⟩
theorem lw_p76 : lw_okq (⟨"HingeTownModel", "askOf", "(IIII)V"⟩, 75) := ⟨⟨by decide +kernel, by decide +kernel⟩, List.mem_of_getElem? (i := 1223) (by decide +kernel), List.mem_of_getElem? (i := 1657) (by decide +kernel), List.mem_of_getElem? (i := 1658) (by decide +kernel)⟩
theorem lw_p77 : lw_okq (⟨"HingeTownModel", "worked", "(IIII)I"⟩, 75) := ⟨⟨by decide +kernel, by decide +kernel⟩, List.mem_of_getElem? (i := 1223) (by decide +kernel), List.mem_of_getElem? (i := 1661) (by decide +kernel), List.mem_of_getElem? (i := 1662) (by decide +kernel)⟩
theorem lw_p78 : lw_okq (⟨"HingeTownModel", "duskOf", "(I)I"⟩, 75) := ⟨⟨by decide +kernel, by decide +kernel⟩, List.mem_of_getElem? (i := 1223) (by decide +kernel), List.mem_of_getElem? (i := 1671) (by decide +kernel), List.mem_of_getElem? (i := 1672) (by decide +kernel)⟩
theorem lw_p79 : lw_okq (⟨"HingeTownModel", "isAwake", "(II)Z"⟩, 75) := ⟨⟨by decide +kernel, by decide +kernel⟩, List.mem_of_getElem? (i := 1223) (by decide +kernel), List.mem_of_getElem? (i := 1681) (by decide +kernel), List.mem_of_getElem? (i := 1682) (by decide +kernel)⟩
def lw_privs_5 : List (MethodName × Nat) := [(⟨"HingeTownModel", "countUnit", "()V"⟩, 75), (⟨"HingeTownModel", "asked", "()I"⟩, 75), (⟨"HingeTownModel", "add", "(II)V"⟩, 75), (⟨"HingeTownModel", "sign", "()I"⟩, 75), (⟨"HingeTownModel", "hasBracket", "()Z"⟩, 75), (⟨"HingeTownModel", "close", "(I)V"⟩, 75), (⟨"HingeTownModel", "hasRelation", "()Z"⟩, 75), (⟨"HingeTownModel", "isPerson", "(I)Z"⟩, 75), (⟨"HingeTownModel", "loadDate", "(I)V"⟩, 75), (⟨"HingeTownModel", "load", "()V"⟩, 75), (⟨"HingeTownModel", "layDate", "(I)V"⟩, 75), (⟨"HingeTownModel", "dawnOf", "(I)I"⟩, 75), (⟨"HingeTownModel", "askOf", "(IIII)V"⟩, 75), (⟨"HingeTownModel", "worked", "(IIII)I"⟩, 75), (⟨"HingeTownModel", "duskOf", "(I)I"⟩, 75), (⟨"HingeTownModel", "isAwake", "(II)Z"⟩, 75)]
theorem lw_r5 : ∀ q ∈ lw_privs_5, lw_okq q := List.forall_mem_cons.mpr ⟨lw_p64, List.forall_mem_cons.mpr ⟨lw_p65, List.forall_mem_cons.mpr ⟨lw_p66, List.forall_mem_cons.mpr ⟨lw_p67, List.forall_mem_cons.mpr ⟨lw_p68, List.forall_mem_cons.mpr ⟨lw_p69, List.forall_mem_cons.mpr ⟨lw_p70, List.forall_mem_cons.mpr ⟨lw_p71, List.forall_mem_cons.mpr ⟨lw_p72, List.forall_mem_cons.mpr ⟨lw_p73, List.forall_mem_cons.mpr ⟨lw_p74, List.forall_mem_cons.mpr ⟨lw_p75, List.forall_mem_cons.mpr ⟨lw_p76, List.forall_mem_cons.mpr ⟨lw_p77, List.forall_mem_cons.mpr ⟨lw_p78, List.forall_mem_cons.mpr ⟨lw_p79, fun _ h => absurd h List.not_mem_nil⟩⟩⟩⟩⟩⟩⟩⟩⟩⟩⟩⟩⟩⟩⟩⟩
theorem lw_p80 : lw_okq (⟨"HingeTownModel", "harmAt", "(II)I"⟩, 75) := ⟨⟨by decide +kernel, by decide +kernel⟩, List.mem_of_getElem? (i := 1223) (by decide +kernel), List.mem_of_getElem? (i := 1685) (by decide +kernel), List.mem_of_getElem? (i := 1686) (by decide +kernel)⟩
theorem lw_p81 : lw_okq (⟨"HingeTownModel", "harmBy", "(II)I"⟩, 75) := ⟨⟨by decide +kernel, by decide +kernel⟩, List.mem_of_getElem? (i := 1223) (by decide +kernel), List.mem_of_getElem? (i := 1689) (by decide +kernel), List.mem_of_getElem? (i := 1690) (by decide +kernel)⟩
theorem lw_p82 : lw_okq (⟨"HingeTownModel", "isMeet", "(I)Z"⟩, 75) := ⟨⟨by decide +kernel, by decide +kernel⟩, List.mem_of_getElem? (i := 1223) (by decide +kernel), List.mem_of_getElem? (i := 1697) (by decide +kernel), List.mem_of_getElem? (i := 1698) (by decide +kernel)⟩
theorem lw_p83 : lw_okq (⟨"HingeTownModel", "canMeet", "(I)Z"⟩, 75) := ⟨⟨by decide +kernel, by decide +kernel⟩, List.mem_of_getElem? (i := 1223) (by decide +kernel), List.mem_of_getElem? (i := 1701) (by decide +kernel), List.mem_of_getElem? (i := 1702) (by decide +kernel)⟩
theorem lw_p84 : lw_okq (⟨"HingeTownModel", "commonOf", "(II)I"⟩, 75) := ⟨⟨by decide +kernel, by decide +kernel⟩, List.mem_of_getElem? (i := 1223) (by decide +kernel), List.mem_of_getElem? (i := 1705) (by decide +kernel), List.mem_of_getElem? (i := 1706) (by decide +kernel)⟩
theorem lw_p85 : lw_okq (⟨"HingeTownModel", "awakeSet", "(I)I"⟩, 75) := ⟨⟨by decide +kernel, by decide +kernel⟩, List.mem_of_getElem? (i := 1223) (by decide +kernel), List.mem_of_getElem? (i := 1723) (by decide +kernel), List.mem_of_getElem? (i := 1724) (by decide +kernel)⟩
theorem lw_p86 : lw_okq (⟨"HingeTownModel", "act", "()V"⟩, 75) := ⟨⟨by decide +kernel, by decide +kernel⟩, List.mem_of_getElem? (i := 1223) (by decide +kernel), List.mem_of_getElem? (i := 1735) (by decide +kernel), List.mem_of_getElem? (i := 1736) (by decide +kernel)⟩
theorem lw_p87 : lw_okq (⟨"HingeTownModel", "goDate", "()V"⟩, 75) := ⟨⟨by decide +kernel, by decide +kernel⟩, List.mem_of_getElem? (i := 1223) (by decide +kernel), List.mem_of_getElem? (i := 1747) (by decide +kernel), List.mem_of_getElem? (i := 1748) (by decide +kernel)⟩
theorem lw_p88 : lw_okq (⟨"HingeTownModel", "exchange", "(I)V"⟩, 75) := ⟨⟨by decide +kernel, by decide +kernel⟩, List.mem_of_getElem? (i := 1223) (by decide +kernel), List.mem_of_getElem? (i := 1755) (by decide +kernel), List.mem_of_getElem? (i := 1756) (by decide +kernel)⟩
theorem lw_p89 : lw_okq (⟨"HingeTownModel", "canSet", "()I"⟩, 75) := ⟨⟨by decide +kernel, by decide +kernel⟩, List.mem_of_getElem? (i := 1223) (by decide +kernel), List.mem_of_getElem? (i := 1771) (by decide +kernel), List.mem_of_getElem? (i := 1772) (by decide +kernel)⟩
theorem lw_p90 : lw_okq (⟨"HingeTownModel", "canOn", "(II)Z"⟩, 75) := ⟨⟨by decide +kernel, by decide +kernel⟩, List.mem_of_getElem? (i := 1223) (by decide +kernel), List.mem_of_getElem? (i := 1779) (by decide +kernel), List.mem_of_getElem? (i := 1780) (by decide +kernel)⟩
theorem lw_p91 : lw_okq (⟨"HingeTownModel", "harmOf", "(I)I"⟩, 75) := ⟨⟨by decide +kernel, by decide +kernel⟩, List.mem_of_getElem? (i := 1223) (by decide +kernel), List.mem_of_getElem? (i := 1791) (by decide +kernel), List.mem_of_getElem? (i := 1792) (by decide +kernel)⟩
theorem lw_p92 : lw_okq (⟨"HingeTownModel", "blissHere", "()I"⟩, 75) := ⟨⟨by decide +kernel, by decide +kernel⟩, List.mem_of_getElem? (i := 1223) (by decide +kernel), List.mem_of_getElem? (i := 1800) (by decide +kernel), List.mem_of_getElem? (i := 1801) (by decide +kernel)⟩
theorem lw_p93 : lw_okq (⟨"HingeTownModel", "allHarm", "()I"⟩, 75) := ⟨⟨by decide +kernel, by decide +kernel⟩, List.mem_of_getElem? (i := 1223) (by decide +kernel), List.mem_of_getElem? (i := 1804) (by decide +kernel), List.mem_of_getElem? (i := 1805) (by decide +kernel)⟩
theorem lw_p94 : lw_okq (⟨"HingeTownModel", "laySides", "(I)I"⟩, 75) := ⟨⟨by decide +kernel, by decide +kernel⟩, List.mem_of_getElem? (i := 1223) (by decide +kernel), List.mem_of_getElem? (i := 1812) (by decide +kernel), List.mem_of_getElem? (i := 1813) (by decide +kernel)⟩
theorem lw_p95 : lw_okq (⟨"HingeTownModel", "putSides", "()V"⟩, 75) := ⟨⟨by decide +kernel, by decide +kernel⟩, List.mem_of_getElem? (i := 1223) (by decide +kernel), List.mem_of_getElem? (i := 1816) (by decide +kernel), List.mem_of_getElem? (i := 1817) (by decide +kernel)⟩
def lw_privs_6 : List (MethodName × Nat) := [(⟨"HingeTownModel", "harmAt", "(II)I"⟩, 75), (⟨"HingeTownModel", "harmBy", "(II)I"⟩, 75), (⟨"HingeTownModel", "isMeet", "(I)Z"⟩, 75), (⟨"HingeTownModel", "canMeet", "(I)Z"⟩, 75), (⟨"HingeTownModel", "commonOf", "(II)I"⟩, 75), (⟨"HingeTownModel", "awakeSet", "(I)I"⟩, 75), (⟨"HingeTownModel", "act", "()V"⟩, 75), (⟨"HingeTownModel", "goDate", "()V"⟩, 75), (⟨"HingeTownModel", "exchange", "(I)V"⟩, 75), (⟨"HingeTownModel", "canSet", "()I"⟩, 75), (⟨"HingeTownModel", "canOn", "(II)Z"⟩, 75), (⟨"HingeTownModel", "harmOf", "(I)I"⟩, 75), (⟨"HingeTownModel", "blissHere", "()I"⟩, 75), (⟨"HingeTownModel", "allHarm", "()I"⟩, 75), (⟨"HingeTownModel", "laySides", "(I)I"⟩, 75), (⟨"HingeTownModel", "putSides", "()V"⟩, 75)]
theorem lw_r6 : ∀ q ∈ lw_privs_6, lw_okq q := List.forall_mem_cons.mpr ⟨lw_p80, List.forall_mem_cons.mpr ⟨lw_p81, List.forall_mem_cons.mpr ⟨lw_p82, List.forall_mem_cons.mpr ⟨lw_p83, List.forall_mem_cons.mpr ⟨lw_p84, List.forall_mem_cons.mpr ⟨lw_p85, List.forall_mem_cons.mpr ⟨lw_p86, List.forall_mem_cons.mpr ⟨lw_p87, List.forall_mem_cons.mpr ⟨lw_p88, List.forall_mem_cons.mpr ⟨lw_p89, List.forall_mem_cons.mpr ⟨lw_p90, List.forall_mem_cons.mpr ⟨lw_p91, List.forall_mem_cons.mpr ⟨lw_p92, List.forall_mem_cons.mpr ⟨lw_p93, List.forall_mem_cons.mpr ⟨lw_p94, List.forall_mem_cons.mpr ⟨lw_p95, fun _ h => absurd h List.not_mem_nil⟩⟩⟩⟩⟩⟩⟩⟩⟩⟩⟩⟩⟩⟩⟩⟩
theorem lw_p96 : lw_okq (⟨"HingeTownModel", "joyHere", "(I)I"⟩, 75) := ⟨⟨by decide +kernel, by decide +kernel⟩, List.mem_of_getElem? (i := 1223) (by decide +kernel), List.mem_of_getElem? (i := 1824) (by decide +kernel), List.mem_of_getElem? (i := 1825) (by decide +kernel)⟩
theorem lw_p97 : lw_okq (⟨"HingeTownModel", "bestSide", "(I)I"⟩, 75) := ⟨⟨by decide +kernel, by decide +kernel⟩, List.mem_of_getElem? (i := 1223) (by decide +kernel), List.mem_of_getElem? (i := 1845) (by decide +kernel), List.mem_of_getElem? (i := 1846) (by decide +kernel)⟩
theorem lw_p98 : lw_okq (⟨"HingeTownModel", "areServed", "(I)Z"⟩, 75) := ⟨⟨by decide +kernel, by decide +kernel⟩, List.mem_of_getElem? (i := 1223) (by decide +kernel), List.mem_of_getElem? (i := 1853) (by decide +kernel), List.mem_of_getElem? (i := 1854) (by decide +kernel)⟩
theorem lw_p99 : lw_okq (⟨"HingeTownModel", "goLetters", "(I)I"⟩, 75) := ⟨⟨by decide +kernel, by decide +kernel⟩, List.mem_of_getElem? (i := 1223) (by decide +kernel), List.mem_of_getElem? (i := 1861) (by decide +kernel), List.mem_of_getElem? (i := 1862) (by decide +kernel)⟩
theorem lw_p100 : lw_okq (⟨"HingeTownModel", "handedOn", "(II)I"⟩, 75) := ⟨⟨by decide +kernel, by decide +kernel⟩, List.mem_of_getElem? (i := 1223) (by decide +kernel), List.mem_of_getElem? (i := 1865) (by decide +kernel), List.mem_of_getElem? (i := 1866) (by decide +kernel)⟩
theorem lw_p101 : lw_okq (⟨"HingeTownModel", "haveMeet", "(II)Z"⟩, 75) := ⟨⟨by decide +kernel, by decide +kernel⟩, List.mem_of_getElem? (i := 1223) (by decide +kernel), List.mem_of_getElem? (i := 1869) (by decide +kernel), List.mem_of_getElem? (i := 1870) (by decide +kernel)⟩
theorem lw_p102 : lw_okq (⟨"HingeTownModel", "layFits", "(II)I"⟩, 75) := ⟨⟨by decide +kernel, by decide +kernel⟩, List.mem_of_getElem? (i := 1223) (by decide +kernel), List.mem_of_getElem? (i := 1912) (by decide +kernel), List.mem_of_getElem? (i := 1913) (by decide +kernel)⟩
theorem lw_p103 : lw_okq (⟨"HingeTownModel", "isFit", "(II)Z"⟩, 75) := ⟨⟨by decide +kernel, by decide +kernel⟩, List.mem_of_getElem? (i := 1223) (by decide +kernel), List.mem_of_getElem? (i := 1916) (by decide +kernel), List.mem_of_getElem? (i := 1917) (by decide +kernel)⟩
theorem lw_p104 : lw_okq (⟨"HingeTownModel", "lightsAt", "(II)I"⟩, 75) := ⟨⟨by decide +kernel, by decide +kernel⟩, List.mem_of_getElem? (i := 1223) (by decide +kernel), List.mem_of_getElem? (i := 1920) (by decide +kernel), List.mem_of_getElem? (i := 1921) (by decide +kernel)⟩
def lw_privs_7 : List (MethodName × Nat) := [(⟨"HingeTownModel", "joyHere", "(I)I"⟩, 75), (⟨"HingeTownModel", "bestSide", "(I)I"⟩, 75), (⟨"HingeTownModel", "areServed", "(I)Z"⟩, 75), (⟨"HingeTownModel", "goLetters", "(I)I"⟩, 75), (⟨"HingeTownModel", "handedOn", "(II)I"⟩, 75), (⟨"HingeTownModel", "haveMeet", "(II)Z"⟩, 75), (⟨"HingeTownModel", "layFits", "(II)I"⟩, 75), (⟨"HingeTownModel", "isFit", "(II)Z"⟩, 75), (⟨"HingeTownModel", "lightsAt", "(II)I"⟩, 75)]
theorem lw_r7 : ∀ q ∈ lw_privs_7, lw_okq q := List.forall_mem_cons.mpr ⟨lw_p96, List.forall_mem_cons.mpr ⟨lw_p97, List.forall_mem_cons.mpr ⟨lw_p98, List.forall_mem_cons.mpr ⟨lw_p99, List.forall_mem_cons.mpr ⟨lw_p100, List.forall_mem_cons.mpr ⟨lw_p101, List.forall_mem_cons.mpr ⟨lw_p102, List.forall_mem_cons.mpr ⟨lw_p103, List.forall_mem_cons.mpr ⟨lw_p104, fun _ h => absurd h List.not_mem_nil⟩⟩⟩⟩⟩⟩⟩⟩⟩
def lw_privs : List (MethodName × Nat) := lw_privs_1 ++ (lw_privs_2 ++ (lw_privs_3 ++ (lw_privs_4 ++ (lw_privs_5 ++ (lw_privs_6 ++ (lw_privs_7))))))
def lw_tbl : List Cond := k2_sels lw_privs ++ tables_1
theorem lw_privs_ok : ∀ q ∈ lw_privs, lw_okq q := by
  show ∀ q ∈ lw_privs_1 ++ (lw_privs_2 ++ (lw_privs_3 ++ (lw_privs_4 ++ (lw_privs_5 ++ (lw_privs_6 ++ (lw_privs_7)))))), lw_okq q
  exact List.forall_mem_append.mpr ⟨lw_r1, List.forall_mem_append.mpr ⟨lw_r2, List.forall_mem_append.mpr ⟨lw_r3, List.forall_mem_append.mpr ⟨lw_r4, List.forall_mem_append.mpr ⟨lw_r5, List.forall_mem_append.mpr ⟨lw_r6, lw_r7⟩⟩⟩⟩⟩⟩
-- ===== end of PART A; then your names; then what follows =====
end
section
def RX0 : String := "HingeTown$Acts"
def TX0 : u_T := fun k => match k with
  | 0 => ("HingeTown$Acts", "rows", "[I", true)
  | 1 => ("HingeTown$Acts", "row", "I", false)
  | 2 => ("HingeTown$Acts", "past", "I", false)
  | _ => ("HingeTown$Acts", "future", "I", false)
def tyX0 : Nat → FieldType := fun k => match k with
  | 0 => .array .int
  | 1 => .int
  | 2 => .int
  | _ => .int
theorem nmX0 : ∀ a, a < 4 → ∀ b, b < 4 → a ≠ b → (TX0 a).2.1 ≠ (TX0 b).2.1 := by decide +kernel
theorem tyX0_ok : ∀ k, k < 4 → parseFieldDescriptor (TX0 k).2.2.1 = some (tyX0 k) := by decide +kernel
abbrev cX0_init : ByteArray := prog_2_method_1_code
def yX0_init : MethodName := ⟨RX0, "<init>", "()V"⟩
abbrev cX0_forgetAll : ByteArray := prog_2_method_2_code
def yX0_forgetAll : MethodName := ⟨RX0, "forgetAll", "(LHingeTown$State;)V"⟩
abbrev cX0_keep : ByteArray := prog_2_method_3_code
def yX0_keep : MethodName := ⟨RX0, "keep", "(LHingeTown$State;)V"⟩
abbrev cX0_stepBack : ByteArray := prog_2_method_4_code
def yX0_stepBack : MethodName := ⟨RX0, "stepBack", "(LHingeTown$State;)Z"⟩
abbrev cX0_stepOn : ByteArray := prog_2_method_5_code
def yX0_stepOn : MethodName := ⟨RX0, "stepOn", "(LHingeTown$State;)Z"⟩
def RX1 : String := "HingeTown$Choice"
def TX1 : u_T := fun k => match k with
  | 0 => ("HingeTown$Choice", "persons", "I", false)
  | 1 => ("HingeTown$Choice", "now", "[I", true)
  | 2 => ("HingeTown$Choice", "joys", "[I", true)
  | 3 => ("HingeTown$Choice", "blisses", "[I", true)
  | 4 => ("HingeTown$Choice", "trial", "[I", true)
  | 5 => ("HingeTown$Choice", "blissUpTo", "[I", true)
  | _ => ("HingeTown$Choice", "changesUpTo", "[I", true)
def tyX1 : Nat → FieldType := fun k => match k with
  | 0 => .int
  | 1 => .array .int
  | 2 => .array .int
  | 3 => .array .int
  | 4 => .array .int
  | 5 => .array .int
  | _ => .array .int
theorem nmX1 : ∀ a, a < 7 → ∀ b, b < 7 → a ≠ b → (TX1 a).2.1 ≠ (TX1 b).2.1 := by decide +kernel
theorem tyX1_ok : ∀ k, k < 7 → parseFieldDescriptor (TX1 k).2.2.1 = some (tyX1 k) := by decide +kernel
abbrev cX1_init : ByteArray := prog_3_method_1_code
def yX1_init : MethodName := ⟨RX1, "<init>", "()V"⟩
abbrev cX1_weigh : ByteArray := prog_3_method_2_code
def yX1_weigh : MethodName := ⟨RX1, "weigh", "(LHingeTown$Street;)V"⟩
abbrev cX1_weighMeet : ByteArray := prog_3_method_3_code
def yX1_weighMeet : MethodName := ⟨RX1, "weighMeet", "(LHingeTown$Plan;ILHingeTown$Day;)V"⟩
abbrev cX1_weighNoise : ByteArray := prog_3_method_4_code
def yX1_weighNoise : MethodName := ⟨RX1, "weighNoise", "(LHingeTown$Street;IILHingeTown$Day;)V"⟩
abbrev cX1_placeOf : ByteArray := prog_3_method_5_code
def yX1_placeOf : MethodName := ⟨RX1, "placeOf", "(II)I"⟩
abbrev cX1_bestForAll : ByteArray := prog_3_method_6_code
def yX1_bestForAll : MethodName := ⟨RX1, "bestForAll", "([I)I"⟩
abbrev cX1_addUpFrom : ByteArray := prog_3_method_7_code
def yX1_addUpFrom : MethodName := ⟨RX1, "addUpFrom", "(I)V"⟩
abbrev cX1_nextTrial : ByteArray := prog_3_method_8_code
def yX1_nextTrial : MethodName := ⟨RX1, "nextTrial", "()I"⟩
abbrev cX1_comeToRest : ByteArray := prog_3_method_9_code
def yX1_comeToRest : MethodName := ⟨RX1, "comeToRest", "([I)I"⟩
abbrev cX1_goRound : ByteArray := prog_3_method_10_code
def yX1_goRound : MethodName := ⟨RX1, "goRound", "([I)Z"⟩
abbrev cX1_joyWith : ByteArray := prog_3_method_11_code
def yX1_joyWith : MethodName := ⟨RX1, "joyWith", "(II[I)I"⟩
def RX2 : String := "HingeTown$Day"
def TX2 : u_T := fun k => match k with
  | 0 => ("HingeTown$Day", "date", "I", false)
  | 1 => ("HingeTown$Day", "dawn", "I", false)
  | 2 => ("HingeTown$Day", "dusk", "I", false)
  | _ => ("HingeTown$Day", "hours", "[I", true)
def tyX2 : Nat → FieldType := fun k => match k with
  | 0 => .int
  | 1 => .int
  | 2 => .int
  | _ => .array .int
theorem nmX2 : ∀ a, a < 4 → ∀ b, b < 4 → a ≠ b → (TX2 a).2.1 ≠ (TX2 b).2.1 := by decide +kernel
theorem tyX2_ok : ∀ k, k < 4 → parseFieldDescriptor (TX2 k).2.2.1 = some (tyX2 k) := by decide +kernel
abbrev cX2_init : ByteArray := prog_4_method_1_code
def yX2_init : MethodName := ⟨RX2, "<init>", "()V"⟩
abbrev cX2_become : ByteArray := prog_4_method_2_code
def yX2_become : MethodName := ⟨RX2, "become", "(III)V"⟩
abbrev cX2_hoursAround : ByteArray := prog_4_method_3_code
def yX2_hoursAround : MethodName := ⟨RX2, "hoursAround", "(I)I"⟩
abbrev cX2_wakes : ByteArray := prog_4_method_4_code
def yX2_wakes : MethodName := ⟨RX2, "wakes", "(II)Z"⟩
def RX3 : String := "HingeTown$Formula"
def TX3 : u_T := fun k => match k with
  | 0 => ("HingeTown$Formula", "codes", "[I", true)
  | 1 => ("HingeTown$Formula", "stack", "[I", true)
  | 2 => ("HingeTown$Formula", "size", "I", false)
  | _ => ("HingeTown$Formula", "told", "Z", false)
def tyX3 : Nat → FieldType := fun k => match k with
  | 0 => .array .int
  | 1 => .array .int
  | 2 => .int
  | _ => .boolean
theorem nmX3 : ∀ a, a < 4 → ∀ b, b < 4 → a ≠ b → (TX3 a).2.1 ≠ (TX3 b).2.1 := by decide +kernel
theorem tyX3_ok : ∀ k, k < 4 → parseFieldDescriptor (TX3 k).2.2.1 = some (tyX3 k) := by decide +kernel
abbrev cX3_init : ByteArray := prog_5_method_1_code
def yX3_init : MethodName := ⟨RX3, "<init>", "()V"⟩
abbrev cX3_clear : ByteArray := prog_5_method_2_code
def yX3_clear : MethodName := ⟨RX3, "clear", "()V"⟩
abbrev cX3_put : ByteArray := prog_5_method_3_code
def yX3_put : MethodName := ⟨RX3, "put", "(I)V"⟩
abbrev cX3_valueOf : ByteArray := prog_5_method_4_code
def yX3_valueOf : MethodName := ⟨RX3, "valueOf", "(IIII)I"⟩
abbrev cX3_leafOf : ByteArray := prog_5_method_5_code
def yX3_leafOf : MethodName := ⟨RX3, "leafOf", "(IIIII)I"⟩
abbrev cX3_join : ByteArray := prog_5_method_6_code
def yX3_join : MethodName := ⟨RX3, "join", "(III)I"⟩
def RX4 : String := "HingeTown$Letters"
def TX4 : u_T := fun k => match k with
  | _ => ("", "", "", false)
def tyX4 : Nat → FieldType := fun k => match k with
  | _ => .int
theorem nmX4 : ∀ a, a < 0 → ∀ b, b < 0 → a ≠ b → (TX4 a).2.1 ≠ (TX4 b).2.1 := by decide +kernel
theorem tyX4_ok : ∀ k, k < 0 → parseFieldDescriptor (TX4 k).2.2.1 = some (tyX4 k) := by decide +kernel
abbrev cX4_hoursTo : ByteArray := prog_6_method_2_code
def yX4_hoursTo : MethodName := ⟨RX4, "hoursTo", "(LHingeTown$Street;II)I"⟩
abbrev cX4_whoHasIt : ByteArray := prog_6_method_3_code
def yX4_whoHasIt : MethodName := ⟨RX4, "whoHasIt", "(LHingeTown$Street;II)I"⟩
abbrev cX4_fewestWoken : ByteArray := prog_6_method_4_code
def yX4_fewestWoken : MethodName := ⟨RX4, "fewestWoken", "(LHingeTown$Street;II)I"⟩
abbrev cX4_whoIsAwakeBehind : ByteArray := prog_6_method_5_code
def yX4_whoIsAwakeBehind : MethodName := ⟨RX4, "whoIsAwakeBehind", "(LHingeTown$Street;I)I"⟩
abbrev cX4_handOn : ByteArray := prog_6_method_6_code
def yX4_handOn : MethodName := ⟨RX4, "handOn", "(LHingeTown$Plan;II)I"⟩
def RX5 : String := "HingeTown$Lights"
def TX5 : u_T := fun k => match k with
  | 0 => ("HingeTown$Lights", "count", "I", false)
  | 1 => ("HingeTown$Lights", "time", "I", false)
  | 2 => ("HingeTown$Lights", "houses", "[I", true)
  | 3 => ("HingeTown$Lights", "hours", "[I", true)
  | 4 => ("HingeTown$Lights", "were", "[Z", true)
  | 5 => ("HingeTown$Lights", "toldAt", "[I", true)
  | 6 => ("HingeTown$Lights", "untoldAt", "[I", true)
  | 7 => ("HingeTown$Lights", "nights", "[I", true)
  | _ => ("HingeTown$Lights", "ways", "I", false)
def tyX5 : Nat → FieldType := fun k => match k with
  | 0 => .int
  | 1 => .int
  | 2 => .array .int
  | 3 => .array .int
  | 4 => .array .boolean
  | 5 => .array .int
  | 6 => .array .int
  | 7 => .array .int
  | _ => .int
theorem nmX5 : ∀ a, a < 9 → ∀ b, b < 9 → a ≠ b → (TX5 a).2.1 ≠ (TX5 b).2.1 := by decide +kernel
theorem tyX5_ok : ∀ k, k < 9 → parseFieldDescriptor (TX5 k).2.2.1 = some (tyX5 k) := by decide +kernel
abbrev cX5_init : ByteArray := prog_7_method_1_code
def yX5_init : MethodName := ⟨RX5, "<init>", "()V"⟩
abbrev cX5_forgetAll : ByteArray := prog_7_method_2_code
def yX5_forgetAll : MethodName := ⟨RX5, "forgetAll", "()V"⟩
abbrev cX5_tell : ByteArray := prog_7_method_3_code
def yX5_tell : MethodName := ⟨RX5, "tell", "(IIZ)I"⟩
abbrev cX5_takeBack : ByteArray := prog_7_method_4_code
def yX5_takeBack : MethodName := ⟨RX5, "takeBack", "(I)Z"⟩
abbrev cX5_goOn : ByteArray := prog_7_method_5_code
def yX5_goOn : MethodName := ⟨RX5, "goOn", "(I)I"⟩
abbrev cX5_lookAt : ByteArray := prog_7_method_6_code
def yX5_lookAt : MethodName := ⟨RX5, "lookAt", "(LHingeTown$Street;I)V"⟩
abbrev cX5_dropAgainst : ByteArray := prog_7_method_7_code
def yX5_dropAgainst : MethodName := ⟨RX5, "dropAgainst", "(ILHingeTown$Plan;LHingeTown$Day;)V"⟩
abbrev cX5_isLit : ByteArray := prog_7_method_8_code
def yX5_isLit : MethodName := ⟨RX5, "isLit", "(IIZ)Z"⟩
abbrev cX5_sideOf : ByteArray := prog_7_method_9_code
def yX5_sideOf : MethodName := ⟨RX5, "sideOf", "(I)I"⟩
abbrev cX5_bestHour : ByteArray := prog_7_method_10_code
def yX5_bestHour : MethodName := ⟨RX5, "bestHour", "(LHingeTown$Street;I)I"⟩
abbrev cX5_mostLeft : ByteArray := prog_7_method_11_code
def yX5_mostLeft : MethodName := ⟨RX5, "mostLeft", "(LHingeTown$Street;II)I"⟩
def RX6 : String := "HingeTown$Plan"
def TX6 : u_T := fun k => match k with
  | 0 => ("HingeTown$Plan", "persons", "I", false)
  | 1 => ("HingeTown$Plan", "names", "[J", true)
  | 2 => ("HingeTown$Plan", "houses", "[I", true)
  | 3 => ("HingeTown$Plan", "sides", "[I", true)
  | 4 => ("HingeTown$Plan", "wakeful", "[I", true)
  | 5 => ("HingeTown$Plan", "meets", "I", false)
  | 6 => ("HingeTown$Plan", "ones", "[I", true)
  | 7 => ("HingeTown$Plan", "others", "[I", true)
  | 8 => ("HingeTown$Plan", "hours", "[I", true)
  | 9 => ("HingeTown$Plan", "worths", "[I", true)
  | 10 => ("HingeTown$Plan", "noises", "I", false)
  | 11 => ("HingeTown$Plan", "makers", "[I", true)
  | 12 => ("HingeTown$Plan", "times", "[I", true)
  | 13 => ("HingeTown$Plan", "louds", "[I", true)
  | 14 => ("HingeTown$Plan", "date", "I", false)
  | 15 => ("HingeTown$Plan", "dawn", "LHingeTown$Formula;", true)
  | 16 => ("HingeTown$Plan", "dusk", "LHingeTown$Formula;", true)
  | 17 => ("HingeTown$Plan", "harm", "LHingeTown$Formula;", true)
  | _ => ("HingeTown$Plan", "units", "I", false)
def tyX6 : Nat → FieldType := fun k => match k with
  | 0 => .int
  | 1 => .array .long
  | 2 => .array .int
  | 3 => .array .int
  | 4 => .array .int
  | 5 => .int
  | 6 => .array .int
  | 7 => .array .int
  | 8 => .array .int
  | 9 => .array .int
  | 10 => .int
  | 11 => .array .int
  | 12 => .array .int
  | 13 => .array .int
  | 14 => .int
  | 15 => .object "HingeTown$Formula"
  | 16 => .object "HingeTown$Formula"
  | 17 => .object "HingeTown$Formula"
  | _ => .int
theorem nmX6 : ∀ a, a < 19 → ∀ b, b < 19 → a ≠ b → (TX6 a).2.1 ≠ (TX6 b).2.1 := by decide +kernel
theorem tyX6_ok : ∀ k, k < 19 → parseFieldDescriptor (TX6 k).2.2.1 = some (tyX6 k) := by decide +kernel
abbrev cX6_init : ByteArray := prog_8_method_1_code
def yX6_init : MethodName := ⟨RX6, "<init>", "()V"⟩
abbrev cX6_clear : ByteArray := prog_8_method_2_code
def yX6_clear : MethodName := ⟨RX6, "clear", "()V"⟩
abbrev cX6_find : ByteArray := prog_8_method_3_code
def yX6_find : MethodName := ⟨RX6, "find", "(J)I"⟩
abbrev cX6_hasMeetOf : ByteArray := prog_8_method_4_code
def yX6_hasMeetOf : MethodName := ⟨RX6, "hasMeetOf", "(II)Z"⟩
abbrev cX6_noiseOf : ByteArray := prog_8_method_5_code
def yX6_noiseOf : MethodName := ⟨RX6, "noiseOf", "(II)I"⟩
abbrev cX6_bothOf : ByteArray := prog_8_method_6_code
def yX6_bothOf : MethodName := ⟨RX6, "bothOf", "(I)I"⟩
abbrev cX6_wakefulOf : ByteArray := prog_8_method_7_code
def yX6_wakefulOf : MethodName := ⟨RX6, "wakefulOf", "(I)I"⟩
abbrev cX6_whoLivesAt : ByteArray := prog_8_method_8_code
def yX6_whoLivesAt : MethodName := ⟨RX6, "whoLivesAt", "(I)I"⟩
def RX7 : String := "HingeTown$Reader"
def TX7 : u_T := fun k => match k with
  | 0 => ("HingeTown$Reader", "tape", "LHingeTown$Tape;", true)
  | 1 => ("HingeTown$Reader", "plan", "LHingeTown$Plan;", false)
  | 2 => ("HingeTown$Reader", "formula", "LHingeTown$Formula;", false)
  | 3 => ("HingeTown$Reader", "unitsHere", "I", false)
  | 4 => ("HingeTown$Reader", "fault", "I", false)
  | _ => ("HingeTown$Reader", "place", "I", false)
def tyX7 : Nat → FieldType := fun k => match k with
  | 0 => .object "HingeTown$Tape"
  | 1 => .object "HingeTown$Plan"
  | 2 => .object "HingeTown$Formula"
  | 3 => .int
  | 4 => .int
  | _ => .int
theorem nmX7 : ∀ a, a < 6 → ∀ b, b < 6 → a ≠ b → (TX7 a).2.1 ≠ (TX7 b).2.1 := by decide +kernel
theorem tyX7_ok : ∀ k, k < 6 → parseFieldDescriptor (TX7 k).2.2.1 = some (tyX7 k) := by decide +kernel
abbrev cX7_init : ByteArray := prog_9_method_1_code
def yX7_init : MethodName := ⟨RX7, "<init>", "(LHingeTown$Tape;)V"⟩
abbrev cX7_giveFor : ByteArray := prog_9_method_2_code
def yX7_giveFor : MethodName := ⟨RX7, "giveFor", "(LHingeTown$Plan;)LHingeTown$Plan;"⟩
abbrev cX7_readTown : ByteArray := prog_9_method_3_code
def yX7_readTown : MethodName := ⟨RX7, "readTown", "()Z"⟩
abbrev cX7_readPerson : ByteArray := prog_9_method_4_code
def yX7_readPerson : MethodName := ⟨RX7, "readPerson", "()Z"⟩
abbrev cX7_readSide : ByteArray := prog_9_method_5_code
def yX7_readSide : MethodName := ⟨RX7, "readSide", "()I"⟩
abbrev cX7_readMeet : ByteArray := prog_9_method_6_code
def yX7_readMeet : MethodName := ⟨RX7, "readMeet", "()Z"⟩
abbrev cX7_readNoise : ByteArray := prog_9_method_7_code
def yX7_readNoise : MethodName := ⟨RX7, "readNoise", "()Z"⟩
abbrev cX7_readWakeful : ByteArray := prog_9_method_8_code
def yX7_readWakeful : MethodName := ⟨RX7, "readWakeful", "()Z"⟩
abbrev cX7_readDate : ByteArray := prog_9_method_9_code
def yX7_readDate : MethodName := ⟨RX7, "readDate", "()Z"⟩
abbrev cX7_readFormula : ByteArray := prog_9_method_10_code
def yX7_readFormula : MethodName := ⟨RX7, "readFormula", "(LHingeTown$Formula;)Z"⟩
abbrev cX7_readEither : ByteArray := prog_9_method_11_code
def yX7_readEither : MethodName := ⟨RX7, "readEither", "(I)Z"⟩
abbrev cX7_readBoth : ByteArray := prog_9_method_12_code
def yX7_readBoth : MethodName := ⟨RX7, "readBoth", "(I)Z"⟩
abbrev cX7_readOne : ByteArray := prog_9_method_13_code
def yX7_readOne : MethodName := ⟨RX7, "readOne", "(I)Z"⟩
abbrev cX7_readRelation : ByteArray := prog_9_method_14_code
def yX7_readRelation : MethodName := ⟨RX7, "readRelation", "(I)Z"⟩
abbrev cX7_readSum : ByteArray := prog_9_method_15_code
def yX7_readSum : MethodName := ⟨RX7, "readSum", "(I)Z"⟩
abbrev cX7_readTerm : ByteArray := prog_9_method_16_code
def yX7_readTerm : MethodName := ⟨RX7, "readTerm", "(I)Z"⟩
abbrev cX7_readUnit : ByteArray := prog_9_method_17_code
def yX7_readUnit : MethodName := ⟨RX7, "readUnit", "(I)Z"⟩
abbrev cX7_relationHere : ByteArray := prog_9_method_18_code
def yX7_relationHere : MethodName := ⟨RX7, "relationHere", "()I"⟩
abbrev cX7_factorHere : ByteArray := prog_9_method_19_code
def yX7_factorHere : MethodName := ⟨RX7, "factorHere", "()I"⟩
abbrev cX7_givenHere : ByteArray := prog_9_method_20_code
def yX7_givenHere : MethodName := ⟨RX7, "givenHere", "()I"⟩
abbrev cX7_personHere : ByteArray := prog_9_method_21_code
def yX7_personHere : MethodName := ⟨RX7, "personHere", "()I"⟩
abbrev cX7_isNumberBehind : ByteArray := prog_9_method_22_code
def yX7_isNumberBehind : MethodName := ⟨RX7, "isNumberBehind", "(III)Z"⟩
abbrev cX7_isNumberHere : ByteArray := prog_9_method_23_code
def yX7_isNumberHere : MethodName := ⟨RX7, "isNumberHere", "(II)Z"⟩
abbrev cX7_pass : ByteArray := prog_9_method_24_code
def yX7_pass : MethodName := ⟨RX7, "pass", "(I)Z"⟩
abbrev cX7_refuse : ByteArray := prog_9_method_25_code
def yX7_refuse : MethodName := ⟨RX7, "refuse", "(I)Z"⟩
def RX8 : String := "HingeTown$State"
def TX8 : u_T := fun k => match k with
  | 0 => ("HingeTown$State", "sides", "[I", true)
  | 1 => ("HingeTown$State", "suffered", "[I", true)
  | 2 => ("HingeTown$State", "together", "[I", true)
  | 3 => ("HingeTown$State", "met", "[I", true)
  | 4 => ("HingeTown$State", "quiet", "I", false)
  | 5 => ("HingeTown$State", "hour", "I", false)
  | _ => ("HingeTown$State", "date", "I", false)
def tyX8 : Nat → FieldType := fun k => match k with
  | 0 => .array .int
  | 1 => .array .int
  | 2 => .array .int
  | 3 => .array .int
  | 4 => .int
  | 5 => .int
  | _ => .int
theorem nmX8 : ∀ a, a < 7 → ∀ b, b < 7 → a ≠ b → (TX8 a).2.1 ≠ (TX8 b).2.1 := by decide +kernel
theorem tyX8_ok : ∀ k, k < 7 → parseFieldDescriptor (TX8 k).2.2.1 = some (tyX8 k) := by decide +kernel
abbrev cX8_init : ByteArray := prog_10_method_1_code
def yX8_init : MethodName := ⟨RX8, "<init>", "()V"⟩
abbrev cX8_begin : ByteArray := prog_10_method_2_code
def yX8_begin : MethodName := ⟨RX8, "begin", "(LHingeTown$Plan;)V"⟩
abbrev cX8_save : ByteArray := prog_10_method_3_code
def yX8_save : MethodName := ⟨RX8, "save", "([II)V"⟩
abbrev cX8_load : ByteArray := prog_10_method_4_code
def yX8_load : MethodName := ⟨RX8, "load", "([II)V"⟩
def RX9 : String := "HingeTown$Street"
def TX9 : u_T := fun k => match k with
  | 0 => ("HingeTown$Street", "state", "LHingeTown$State;", true)
  | 1 => ("HingeTown$Street", "plan", "LHingeTown$Plan;", false)
  | 2 => ("HingeTown$Street", "day", "LHingeTown$Day;", true)
  | _ => ("HingeTown$Street", "suns", "[I", true)
def tyX9 : Nat → FieldType := fun k => match k with
  | 0 => .object "HingeTown$State"
  | 1 => .object "HingeTown$Plan"
  | 2 => .object "HingeTown$Day"
  | _ => .array .int
theorem nmX9 : ∀ a, a < 4 → ∀ b, b < 4 → a ≠ b → (TX9 a).2.1 ≠ (TX9 b).2.1 := by decide +kernel
theorem tyX9_ok : ∀ k, k < 4 → parseFieldDescriptor (TX9 k).2.2.1 = some (tyX9 k) := by decide +kernel
abbrev cX9_init : ByteArray := prog_11_method_1_code
def yX9_init : MethodName := ⟨RX9, "<init>", "()V"⟩
abbrev cX9_settle : ByteArray := prog_11_method_2_code
def yX9_settle : MethodName := ⟨RX9, "settle", "(LHingeTown$Plan;)V"⟩
abbrev cX9_hasPerson : ByteArray := prog_11_method_3_code
def yX9_hasPerson : MethodName := ⟨RX9, "hasPerson", "(I)Z"⟩
abbrev cX9_hasMeet : ByteArray := prog_11_method_4_code
def yX9_hasMeet : MethodName := ⟨RX9, "hasMeet", "(I)Z"⟩
abbrev cX9_everybody : ByteArray := prog_11_method_5_code
def yX9_everybody : MethodName := ⟨RX9, "everybody", "()I"⟩
abbrev cX9_dayOf : ByteArray := prog_11_method_6_code
def yX9_dayOf : MethodName := ⟨RX9, "dayOf", "(I)LHingeTown$Day;"⟩
abbrev cX9_today : ByteArray := prog_11_method_7_code
def yX9_today : MethodName := ⟨RX9, "today", "()LHingeTown$Day;"⟩
abbrev cX9_reckonSun : ByteArray := prog_11_method_8_code
def yX9_reckonSun : MethodName := ⟨RX9, "reckonSun", "(I)I"⟩
abbrev cX9_within : ByteArray := prog_11_method_9_code
def yX9_within : MethodName := ⟨RX9, "within", "(III)I"⟩
abbrev cX9_isQuiet : ByteArray := prog_11_method_10_code
def yX9_isQuiet : MethodName := ⟨RX9, "isQuiet", "(I)Z"⟩
abbrev cX9_hoursAwake : ByteArray := prog_11_method_11_code
def yX9_hoursAwake : MethodName := ⟨RX9, "hoursAwake", "(ILHingeTown$Day;)I"⟩
abbrev cX9_isAwake : ByteArray := prog_11_method_12_code
def yX9_isAwake : MethodName := ⟨RX9, "isAwake", "(ILHingeTown$Day;I)Z"⟩
abbrev cX9_whoIsAwake : ByteArray := prog_11_method_13_code
def yX9_whoIsAwake : MethodName := ⟨RX9, "whoIsAwake", "(LHingeTown$Day;I)I"⟩
abbrev cX9_hurtOf : ByteArray := prog_11_method_14_code
def yX9_hurtOf : MethodName := ⟨RX9, "hurtOf", "(IILHingeTown$Day;)I"⟩
abbrev cX9_harmOf : ByteArray := prog_11_method_15_code
def yX9_harmOf : MethodName := ⟨RX9, "harmOf", "(IILHingeTown$Day;)I"⟩
abbrev cX9_harmAt : ByteArray := prog_11_method_16_code
def yX9_harmAt : MethodName := ⟨RX9, "harmAt", "(ILHingeTown$Day;I)I"⟩
abbrev cX9_harmOn : ByteArray := prog_11_method_17_code
def yX9_harmOn : MethodName := ⟨RX9, "harmOn", "(ILHingeTown$Day;)I"⟩
abbrev cX9_harmBy : ByteArray := prog_11_method_18_code
def yX9_harmBy : MethodName := ⟨RX9, "harmBy", "(ILHingeTown$Day;)I"⟩
abbrev cX9_passHour : ByteArray := prog_11_method_19_code
def yX9_passHour : MethodName := ⟨RX9, "passHour", "()I"⟩
abbrev cX9_endDay : ByteArray := prog_11_method_20_code
def yX9_endDay : MethodName := ⟨RX9, "endDay", "()V"⟩
abbrev cX9_hoursTogether : ByteArray := prog_11_method_21_code
def yX9_hoursTogether : MethodName := ⟨RX9, "hoursTogether", "(IILHingeTown$Day;)I"⟩
abbrev cX9_canMeet : ByteArray := prog_11_method_22_code
def yX9_canMeet : MethodName := ⟨RX9, "canMeet", "(ILHingeTown$Day;)Z"⟩
abbrev cX9_worthOfMeets : ByteArray := prog_11_method_23_code
def yX9_worthOfMeets : MethodName := ⟨RX9, "worthOfMeets", "(ILHingeTown$Day;)I"⟩
abbrev cX9_blissOf : ByteArray := prog_11_method_24_code
def yX9_blissOf : MethodName := ⟨RX9, "blissOf", "(LHingeTown$Day;)I"⟩
abbrev cX9_joyOf : ByteArray := prog_11_method_25_code
def yX9_joyOf : MethodName := ⟨RX9, "joyOf", "(ILHingeTown$Day;)I"⟩
abbrev cX9_allServed : ByteArray := prog_11_method_26_code
def yX9_allServed : MethodName := ⟨RX9, "allServed", "(II)Z"⟩
abbrev cX9_chancesToMeet : ByteArray := prog_11_method_27_code
def yX9_chancesToMeet : MethodName := ⟨RX9, "chancesToMeet", "(ILHingeTown$Day;)I"⟩
abbrev cX9_hoursIf : ByteArray := prog_11_method_28_code
def yX9_hoursIf : MethodName := ⟨RX9, "hoursIf", "(ZILHingeTown$Day;)I"⟩
abbrev cX9_chancesIf : ByteArray := prog_11_method_29_code
def yX9_chancesIf : MethodName := ⟨RX9, "chancesIf", "(ZI)I"⟩
def RX10 : String := "HingeTown$Tape"
def TX10 : u_T := fun k => match k with
  | 0 => ("HingeTown$Tape", "bytes", "[B", true)
  | 1 => ("HingeTown$Tape", "length", "I", false)
  | 2 => ("HingeTown$Tape", "words", "[J", true)
  | 3 => ("HingeTown$Tape", "next", "I", false)
  | 4 => ("HingeTown$Tape", "kind", "I", false)
  | 5 => ("HingeTown$Tape", "place", "I", false)
  | 6 => ("HingeTown$Tape", "number", "I", false)
  | _ => ("HingeTown$Tape", "name", "J", false)
def tyX10 : Nat → FieldType := fun k => match k with
  | 0 => .array .byte
  | 1 => .int
  | 2 => .array .long
  | 3 => .int
  | 4 => .int
  | 5 => .int
  | 6 => .int
  | _ => .long
theorem nmX10 : ∀ a, a < 8 → ∀ b, b < 8 → a ≠ b → (TX10 a).2.1 ≠ (TX10 b).2.1 := by decide +kernel
theorem tyX10_ok : ∀ k, k < 8 → parseFieldDescriptor (TX10 k).2.2.1 = some (tyX10 k) := by decide +kernel
abbrev cX10_init : ByteArray := prog_12_method_1_code
def yX10_init : MethodName := ⟨RX10, "<init>", "()V"⟩
abbrev cX10_add : ByteArray := prog_12_method_2_code
def yX10_add : MethodName := ⟨RX10, "add", "(I)V"⟩
abbrev cX10_open : ByteArray := prog_12_method_3_code
def yX10_open : MethodName := ⟨RX10, "open", "()V"⟩
abbrev cX10_advance : ByteArray := prog_12_method_4_code
def yX10_advance : MethodName := ⟨RX10, "advance", "()V"⟩
abbrev cX10_readWord : ByteArray := prog_12_method_5_code
def yX10_readWord : MethodName := ⟨RX10, "readWord", "()V"⟩
abbrev cX10_readNumber : ByteArray := prog_12_method_6_code
def yX10_readNumber : MethodName := ⟨RX10, "readNumber", "()V"⟩
abbrev cX10_isLetterAt : ByteArray := prog_12_method_7_code
def yX10_isLetterAt : MethodName := ⟨RX10, "isLetterAt", "(I)Z"⟩
abbrev cX10_isDigitAt : ByteArray := prog_12_method_8_code
def yX10_isDigitAt : MethodName := ⟨RX10, "isDigitAt", "(I)Z"⟩
abbrev cX10_withLetter : ByteArray := prog_12_method_9_code
def yX10_withLetter : MethodName := ⟨RX10, "withLetter", "(JI)J"⟩
def RX11 : String := "HingeTown"
def TX11 : u_T := fun k => match k with
  | 0 => ("HingeTown", "tape", "LHingeTown$Tape;", true)
  | 1 => ("HingeTown", "reader", "LHingeTown$Reader;", true)
  | 2 => ("HingeTown", "street", "LHingeTown$Street;", true)
  | 3 => ("HingeTown", "acts", "LHingeTown$Acts;", true)
  | 4 => ("HingeTown", "choice", "LHingeTown$Choice;", true)
  | 5 => ("HingeTown", "lights", "LHingeTown$Lights;", true)
  | 6 => ("HingeTown", "boxes", "[I", true)
  | 7 => ("HingeTown", "boxesFull", "I", false)
  | 8 => ("HingeTown", "lying", "[I", true)
  | _ => ("HingeTown", "lyingCount", "I", false)
def tyX11 : Nat → FieldType := fun k => match k with
  | 0 => .object "HingeTown$Tape"
  | 1 => .object "HingeTown$Reader"
  | 2 => .object "HingeTown$Street"
  | 3 => .object "HingeTown$Acts"
  | 4 => .object "HingeTown$Choice"
  | 5 => .object "HingeTown$Lights"
  | 6 => .array .int
  | 7 => .int
  | 8 => .array .int
  | _ => .int
theorem nmX11 : ∀ a, a < 10 → ∀ b, b < 10 → a ≠ b → (TX11 a).2.1 ≠ (TX11 b).2.1 := by decide +kernel
theorem tyX11_ok : ∀ k, k < 10 → parseFieldDescriptor (TX11 k).2.2.1 = some (tyX11 k) := by decide +kernel
abbrev cX11_init : ByteArray := prog_1_method_1_code
def yX11_init : MethodName := ⟨RX11, "<init>", "()V"⟩
abbrev cX11_feed : ByteArray := prog_1_method_2_code
def yX11_feed : MethodName := ⟨RX11, "feed", "(IIIII)I"⟩
abbrev cX11_end : ByteArray := prog_1_method_3_code
def yX11_end : MethodName := ⟨RX11, "end", "(I)I"⟩
abbrev cX11_town : ByteArray := prog_1_method_4_code
def yX11_town : MethodName := ⟨RX11, "town", "()I"⟩
abbrev cX11_fault : ByteArray := prog_1_method_5_code
def yX11_fault : MethodName := ⟨RX11, "fault", "(I)I"⟩
abbrev cX11_person : ByteArray := prog_1_method_6_code
def yX11_person : MethodName := ⟨RX11, "person", "(II)I"⟩
abbrev cX11_meet : ByteArray := prog_1_method_7_code
def yX11_meet : MethodName := ⟨RX11, "meet", "(II)I"⟩
abbrev cX11_light : ByteArray := prog_1_method_8_code
def yX11_light : MethodName := ⟨RX11, "light", "(II)I"⟩
abbrev cX11_awake : ByteArray := prog_1_method_9_code
def yX11_awake : MethodName := ⟨RX11, "awake", "(II)I"⟩
abbrev cX11_noise : ByteArray := prog_1_method_10_code
def yX11_noise : MethodName := ⟨RX11, "noise", "(II)I"⟩
abbrev cX11_go : ByteArray := prog_1_method_11_code
def yX11_go : MethodName := ⟨RX11, "go", "(II)I"⟩
abbrev cX11_hush : ByteArray := prog_1_method_12_code
def yX11_hush : MethodName := ⟨RX11, "hush", "(I)I"⟩
abbrev cX11_hour : ByteArray := prog_1_method_13_code
def yX11_hour : MethodName := ⟨RX11, "hour", "()I"⟩
abbrev cX11_undo : ByteArray := prog_1_method_14_code
def yX11_undo : MethodName := ⟨RX11, "undo", "()Z"⟩
abbrev cX11_redo : ByteArray := prog_1_method_15_code
def yX11_redo : MethodName := ⟨RX11, "redo", "()Z"⟩
abbrev cX11_common : ByteArray := prog_1_method_16_code
def yX11_common : MethodName := ⟨RX11, "common", "(III)I"⟩
abbrev cX11_can : ByteArray := prog_1_method_17_code
def yX11_can : MethodName := ⟨RX11, "can", "(I)I"⟩
abbrev cX11_never : ByteArray := prog_1_method_18_code
def yX11_never : MethodName := ⟨RX11, "never", "(I)I"⟩
abbrev cX11_dates : ByteArray := prog_1_method_19_code
def yX11_dates : MethodName := ⟨RX11, "dates", "(I)I"⟩
abbrev cX11_harmed : ByteArray := prog_1_method_20_code
def yX11_harmed : MethodName := ⟨RX11, "harmed", "(II)I"⟩
abbrev cX11_bliss : ByteArray := prog_1_method_21_code
def yX11_bliss : MethodName := ⟨RX11, "bliss", "(I)I"⟩
abbrev cX11_cut : ByteArray := prog_1_method_22_code
def yX11_cut : MethodName := ⟨RX11, "cut", "()I"⟩
abbrev cX11_joy : ByteArray := prog_1_method_23_code
def yX11_joy : MethodName := ⟨RX11, "joy", "(II)I"⟩
abbrev cX11_lonely : ByteArray := prog_1_method_24_code
def yX11_lonely : MethodName := ⟨RX11, "lonely", "(I)I"⟩
abbrev cX11_hinges : ByteArray := prog_1_method_25_code
def yX11_hinges : MethodName := ⟨RX11, "hinges", "(I)I"⟩
abbrev cX11_loudest : ByteArray := prog_1_method_26_code
def yX11_loudest : MethodName := ⟨RX11, "loudest", "(II)I"⟩
abbrev cX11_rest : ByteArray := prog_1_method_27_code
def yX11_rest : MethodName := ⟨RX11, "rest", "()I"⟩
abbrev cX11_shop : ByteArray := prog_1_method_28_code
def yX11_shop : MethodName := ⟨RX11, "shop", "(I)I"⟩
abbrev cX11_post : ByteArray := prog_1_method_29_code
def yX11_post : MethodName := ⟨RX11, "post", "(II)I"⟩
abbrev cX11_spread : ByteArray := prog_1_method_30_code
def yX11_spread : MethodName := ⟨RX11, "spread", "(II)I"⟩
abbrev cX11_wake : ByteArray := prog_1_method_31_code
def yX11_wake : MethodName := ⟨RX11, "wake", "(III)I"⟩
abbrev cX11_odds : ByteArray := prog_1_method_32_code
def yX11_odds : MethodName := ⟨RX11, "odds", "(III)I"⟩
abbrev cX11_lies : ByteArray := prog_1_method_33_code
def yX11_lies : MethodName := ⟨RX11, "lies", "(I)I"⟩
abbrev cX11_lit : ByteArray := prog_1_method_34_code
def yX11_lit : MethodName := ⟨RX11, "lit", "(IIZ)I"⟩
abbrev cX11_untell : ByteArray := prog_1_method_35_code
def yX11_untell : MethodName := ⟨RX11, "untell", "(I)Z"⟩
abbrev cX11_later : ByteArray := prog_1_method_36_code
def yX11_later : MethodName := ⟨RX11, "later", "(I)I"⟩
abbrev cX11_fits : ByteArray := prog_1_method_37_code
def yX11_fits : MethodName := ⟨RX11, "fits", "(I)I"⟩
abbrev cX11_sure : ByteArray := prog_1_method_38_code
def yX11_sure : MethodName := ⟨RX11, "sure", "(II)I"⟩
abbrev cX11_ask : ByteArray := prog_1_method_39_code
def yX11_ask : MethodName := ⟨RX11, "ask", "(III)I"⟩
abbrev cX11_image : ByteArray := prog_1_method_40_code
def yX11_image : MethodName := ⟨RX11, "image", "(I)I"⟩
abbrev cX11_back : ByteArray := prog_1_method_41_code
def yX11_back : MethodName := ⟨RX11, "back", "(I)I"⟩
abbrev cX11_about : ByteArray := prog_1_method_42_code
def yX11_about : MethodName := ⟨RX11, "about", "(I)I"⟩
abbrev cX11_isDate : ByteArray := prog_1_method_43_code
def yX11_isDate : MethodName := ⟨RX11, "isDate", "(I)Z"⟩
abbrev cX11_isHour : ByteArray := prog_1_method_44_code
def yX11_isHour : MethodName := ⟨RX11, "isHour", "(I)Z"⟩
abbrev cX11_isHouse : ByteArray := prog_1_method_45_code
def yX11_isHouse : MethodName := ⟨RX11, "isHouse", "(I)Z"⟩
abbrev cX11_isBox : ByteArray := prog_1_method_46_code
def yX11_isBox : MethodName := ⟨RX11, "isBox", "(I)Z"⟩
abbrev cX11_greatestDivisor : ByteArray := prog_1_method_47_code
def yX11_greatestDivisor : MethodName := ⟨RX11, "greatestDivisor", "(II)I"⟩
def RX12 : String := "HingeTownModel"
def TX12 : u_T := fun k => match k with
  | 0 => ("HingeTownModel", "tape", "[I", true)
  | 1 => ("HingeTownModel", "taped", "I", false)
  | 2 => ("HingeTownModel", "fault", "I", false)
  | 3 => ("HingeTownModel", "faultPlace", "I", false)
  | 4 => ("HingeTownModel", "at", "I", false)
  | 5 => ("HingeTownModel", "size", "I", false)
  | 6 => ("HingeTownModel", "sort", "I", false)
  | 7 => ("HingeTownModel", "place", "I", false)
  | 8 => ("HingeTownModel", "number", "I", false)
  | 9 => ("HingeTownModel", "word", "J", false)
  | 10 => ("HingeTownModel", "nName", "[J", true)
  | 11 => ("HingeTownModel", "nStep", "[I", true)
  | 12 => ("HingeTownModel", "nArg", "[I", true)
  | 13 => ("HingeTownModel", "nMany", "[I", true)
  | 14 => ("HingeTownModel", "step", "[I", true)
  | 15 => ("HingeTownModel", "arg", "[I", true)
  | 16 => ("HingeTownModel", "steps", "[I", true)
  | 17 => ("HingeTownModel", "open", "[I", true)
  | 18 => ("HingeTownModel", "values", "[I", true)
  | 19 => ("HingeTownModel", "nHasForm", "[Z", true)
  | 20 => ("HingeTownModel", "hasForm", "[Z", true)
  | 21 => ("HingeTownModel", "form", "I", false)
  | 22 => ("HingeTownModel", "opens", "I", false)
  | 23 => ("HingeTownModel", "nUnits", "I", false)
  | 24 => ("HingeTownModel", "units", "I", false)
  | 25 => ("HingeTownModel", "ownUnits", "I", false)
  | 26 => ("HingeTownModel", "deep", "I", false)
  | 27 => ("HingeTownModel", "asks", "[I", true)
  | 28 => ("HingeTownModel", "nHouse", "[I", true)
  | 29 => ("HingeTownModel", "nSide", "[I", true)
  | 30 => ("HingeTownModel", "nWakeful", "[I", true)
  | 31 => ("HingeTownModel", "house", "[I", true)
  | 32 => ("HingeTownModel", "wakeful", "[I", true)
  | 33 => ("HingeTownModel", "nMeetA", "[I", true)
  | 34 => ("HingeTownModel", "nMeetB", "[I", true)
  | 35 => ("HingeTownModel", "nMeetHours", "[I", true)
  | 36 => ("HingeTownModel", "nMeetWorth", "[I", true)
  | 37 => ("HingeTownModel", "meetA", "[I", true)
  | 38 => ("HingeTownModel", "meetB", "[I", true)
  | 39 => ("HingeTownModel", "meetHours", "[I", true)
  | 40 => ("HingeTownModel", "meetWorth", "[I", true)
  | 41 => ("HingeTownModel", "nNoiseOf", "[I", true)
  | 42 => ("HingeTownModel", "nNoiseAt", "[I", true)
  | 43 => ("HingeTownModel", "nNoiseLoud", "[I", true)
  | 44 => ("HingeTownModel", "noiseOf", "[I", true)
  | 45 => ("HingeTownModel", "noiseAt", "[I", true)
  | 46 => ("HingeTownModel", "noiseLoud", "[I", true)
  | 47 => ("HingeTownModel", "nPersons", "I", false)
  | 48 => ("HingeTownModel", "nMeets", "I", false)
  | 49 => ("HingeTownModel", "nNoises", "I", false)
  | 50 => ("HingeTownModel", "nDate", "I", false)
  | 51 => ("HingeTownModel", "persons", "I", false)
  | 52 => ("HingeTownModel", "meets", "I", false)
  | 53 => ("HingeTownModel", "noises", "I", false)
  | 54 => ("HingeTownModel", "nHasDate", "Z", false)
  | 55 => ("HingeTownModel", "now", "[I", true)
  | 56 => ("HingeTownModel", "air", "[I", true)
  | 57 => ("HingeTownModel", "hoursOf", "[I", true)
  | 58 => ("HingeTownModel", "harms", "[I", true)
  | 59 => ("HingeTownModel", "were", "[I", true)
  | 60 => ("HingeTownModel", "acts", "I", false)
  | 61 => ("HingeTownModel", "undone", "I", false)
  | 62 => ("HingeTownModel", "lies", "[I", true)
  | 63 => ("HingeTownModel", "lain", "I", false)
  | 64 => ("HingeTownModel", "litHouse", "[I", true)
  | 65 => ("HingeTownModel", "litHour", "[I", true)
  | 66 => ("HingeTownModel", "litTold", "[I", true)
  | 67 => ("HingeTownModel", "litUntold", "[I", true)
  | 68 => ("HingeTownModel", "litIs", "[Z", true)
  | 69 => ("HingeTownModel", "lights", "I", false)
  | 70 => ("HingeTownModel", "time", "I", false)
  | 71 => ("HingeTownModel", "nightTally", "[I", true)
  | 72 => ("HingeTownModel", "lightTally", "[I", true)
  | 73 => ("HingeTownModel", "hasBox", "[Z", true)
  | _ => ("HingeTownModel", "boxes", "[I", true)
def tyX12 : Nat → FieldType := fun k => match k with
  | 0 => .array .int
  | 1 => .int
  | 2 => .int
  | 3 => .int
  | 4 => .int
  | 5 => .int
  | 6 => .int
  | 7 => .int
  | 8 => .int
  | 9 => .long
  | 10 => .array .long
  | 11 => .array .int
  | 12 => .array .int
  | 13 => .array .int
  | 14 => .array .int
  | 15 => .array .int
  | 16 => .array .int
  | 17 => .array .int
  | 18 => .array .int
  | 19 => .array .boolean
  | 20 => .array .boolean
  | 21 => .int
  | 22 => .int
  | 23 => .int
  | 24 => .int
  | 25 => .int
  | 26 => .int
  | 27 => .array .int
  | 28 => .array .int
  | 29 => .array .int
  | 30 => .array .int
  | 31 => .array .int
  | 32 => .array .int
  | 33 => .array .int
  | 34 => .array .int
  | 35 => .array .int
  | 36 => .array .int
  | 37 => .array .int
  | 38 => .array .int
  | 39 => .array .int
  | 40 => .array .int
  | 41 => .array .int
  | 42 => .array .int
  | 43 => .array .int
  | 44 => .array .int
  | 45 => .array .int
  | 46 => .array .int
  | 47 => .int
  | 48 => .int
  | 49 => .int
  | 50 => .int
  | 51 => .int
  | 52 => .int
  | 53 => .int
  | 54 => .boolean
  | 55 => .array .int
  | 56 => .array .int
  | 57 => .array .int
  | 58 => .array .int
  | 59 => .array .int
  | 60 => .int
  | 61 => .int
  | 62 => .array .int
  | 63 => .int
  | 64 => .array .int
  | 65 => .array .int
  | 66 => .array .int
  | 67 => .array .int
  | 68 => .array .boolean
  | 69 => .int
  | 70 => .int
  | 71 => .array .int
  | 72 => .array .int
  | 73 => .array .boolean
  | _ => .array .int
theorem nmX12 : ∀ a, a < 75 → ∀ b, b < 75 → a ≠ b → (TX12 a).2.1 ≠ (TX12 b).2.1 := by decide +kernel
theorem tyX12_ok : ∀ k, k < 75 → parseFieldDescriptor (TX12 k).2.2.1 = some (tyX12 k) := by decide +kernel
abbrev cX12_init : ByteArray := prog_14_method_1_code
def yX12_init : MethodName := ⟨RX12, "<init>", "()V"⟩
abbrev cX12_feed : ByteArray := prog_14_method_2_code
def yX12_feed : MethodName := ⟨RX12, "feed", "(IIIII)I"⟩
abbrev cX12_four : ByteArray := prog_14_method_3_code
def yX12_four : MethodName := ⟨RX12, "four", "(I)V"⟩
abbrev cX12_end : ByteArray := prog_14_method_4_code
def yX12_end : MethodName := ⟨RX12, "end", "(I)I"⟩
abbrev cX12_here : ByteArray := prog_14_method_5_code
def yX12_here : MethodName := ⟨RX12, "here", "(I)I"⟩
abbrev cX12_isLetter : ByteArray := prog_14_method_6_code
def yX12_isLetter : MethodName := ⟨RX12, "isLetter", "(I)Z"⟩
abbrev cX12_isDigit : ByteArray := prog_14_method_7_code
def yX12_isDigit : MethodName := ⟨RX12, "isDigit", "(I)Z"⟩
abbrev cX12_isSign : ByteArray := prog_14_method_8_code
def yX12_isSign : MethodName := ⟨RX12, "isSign", "(I)Z"⟩
abbrev cX12_token : ByteArray := prog_14_method_9_code
def yX12_token : MethodName := ⟨RX12, "token", "()V"⟩
abbrev cX12_wrong : ByteArray := prog_14_method_10_code
def yX12_wrong : MethodName := ⟨RX12, "wrong", "(I)V"⟩
abbrev cX12_isWord : ByteArray := prog_14_method_11_code
def yX12_isWord : MethodName := ⟨RX12, "isWord", "(J)Z"⟩
abbrev cX12_isOwn : ByteArray := prog_14_method_12_code
def yX12_isOwn : MethodName := ⟨RX12, "isOwn", "()Z"⟩
abbrev cX12_isName : ByteArray := prog_14_method_13_code
def yX12_isName : MethodName := ⟨RX12, "isName", "()Z"⟩
abbrev cX12_want : ByteArray := prog_14_method_14_code
def yX12_want : MethodName := ⟨RX12, "want", "(J)V"⟩
abbrev cX12_toldNumber : ByteArray := prog_14_method_15_code
def yX12_toldNumber : MethodName := ⟨RX12, "toldNumber", "(II)I"⟩
abbrev cX12_told : ByteArray := prog_14_method_16_code
def yX12_told : MethodName := ⟨RX12, "told", "(JII)I"⟩
abbrev cX12_find : ByteArray := prog_14_method_17_code
def yX12_find : MethodName := ⟨RX12, "find", "()I"⟩
abbrev cX12_oldPerson : ByteArray := prog_14_method_18_code
def yX12_oldPerson : MethodName := ⟨RX12, "oldPerson", "()I"⟩
abbrev cX12_add : ByteArray := prog_14_method_19_code
def yX12_add : MethodName := ⟨RX12, "add", "(II)V"⟩
abbrev cX12_tight : ByteArray := prog_14_method_20_code
def yX12_tight : MethodName := ⟨RX12, "tight", "(I)I"⟩
abbrev cX12_close : ByteArray := prog_14_method_21_code
def yX12_close : MethodName := ⟨RX12, "close", "(I)V"⟩
abbrev cX12_hasRelation : ByteArray := prog_14_method_22_code
def yX12_hasRelation : MethodName := ⟨RX12, "hasRelation", "()Z"⟩
abbrev cX12_mayNot : ByteArray := prog_14_method_23_code
def yX12_mayNot : MethodName := ⟨RX12, "mayNot", "()Z"⟩
abbrev cX12_asked : ByteArray := prog_14_method_24_code
def yX12_asked : MethodName := ⟨RX12, "asked", "()I"⟩
abbrev cX12_isFull : ByteArray := prog_14_method_25_code
def yX12_isFull : MethodName := ⟨RX12, "isFull", "()Z"⟩
abbrev cX12_countUnit : ByteArray := prog_14_method_26_code
def yX12_countUnit : MethodName := ⟨RX12, "countUnit", "()V"⟩
abbrev cX12_openUp : ByteArray := prog_14_method_27_code
def yX12_openUp : MethodName := ⟨RX12, "openUp", "(I)V"⟩
abbrev cX12_unit : ByteArray := prog_14_method_28_code
def yX12_unit : MethodName := ⟨RX12, "unit", "()V"⟩
abbrev cX12_sign : ByteArray := prog_14_method_29_code
def yX12_sign : MethodName := ⟨RX12, "sign", "()I"⟩
abbrev cX12_hasBracket : ByteArray := prog_14_method_30_code
def yX12_hasBracket : MethodName := ⟨RX12, "hasBracket", "()Z"⟩
abbrev cX12_formula : ByteArray := prog_14_method_31_code
def yX12_formula : MethodName := ⟨RX12, "formula", "(I)V"⟩
abbrev cX12_truth : ByteArray := prog_14_method_32_code
def yX12_truth : MethodName := ⟨RX12, "truth", "(Z)I"⟩
abbrev cX12_done : ByteArray := prog_14_method_33_code
def yX12_done : MethodName := ⟨RX12, "done", "(III)I"⟩
abbrev cX12_worked : ByteArray := prog_14_method_34_code
def yX12_worked : MethodName := ⟨RX12, "worked", "(IIII)I"⟩
abbrev cX12_readPerson : ByteArray := prog_14_method_35_code
def yX12_readPerson : MethodName := ⟨RX12, "readPerson", "()V"⟩
abbrev cX12_isMeetTold : ByteArray := prog_14_method_36_code
def yX12_isMeetTold : MethodName := ⟨RX12, "isMeetTold", "(II)Z"⟩
abbrev cX12_readMeet : ByteArray := prog_14_method_37_code
def yX12_readMeet : MethodName := ⟨RX12, "readMeet", "()V"⟩
abbrev cX12_isNoiseTold : ByteArray := prog_14_method_38_code
def yX12_isNoiseTold : MethodName := ⟨RX12, "isNoiseTold", "(II)Z"⟩
abbrev cX12_readNoise : ByteArray := prog_14_method_39_code
def yX12_readNoise : MethodName := ⟨RX12, "readNoise", "()V"⟩
abbrev cX12_readWakeful : ByteArray := prog_14_method_40_code
def yX12_readWakeful : MethodName := ⟨RX12, "readWakeful", "()V"⟩
abbrev cX12_readLine : ByteArray := prog_14_method_41_code
def yX12_readLine : MethodName := ⟨RX12, "readLine", "()V"⟩
abbrev cX12_readAll : ByteArray := prog_14_method_42_code
def yX12_readAll : MethodName := ⟨RX12, "readAll", "()V"⟩
abbrev cX12_town : ByteArray := prog_14_method_43_code
def yX12_town : MethodName := ⟨RX12, "town", "()I"⟩
abbrev cX12_fault : ByteArray := prog_14_method_44_code
def yX12_fault : MethodName := ⟨RX12, "fault", "(I)I"⟩
abbrev cX12_isIn : ByteArray := prog_14_method_45_code
def yX12_isIn : MethodName := ⟨RX12, "isIn", "(III)Z"⟩
abbrev cX12_isPerson : ByteArray := prog_14_method_46_code
def yX12_isPerson : MethodName := ⟨RX12, "isPerson", "(I)Z"⟩
abbrev cX12_isMeet : ByteArray := prog_14_method_47_code
def yX12_isMeet : MethodName := ⟨RX12, "isMeet", "(I)Z"⟩
abbrev cX12_isDate : ByteArray := prog_14_method_48_code
def yX12_isDate : MethodName := ⟨RX12, "isDate", "(I)Z"⟩
abbrev cX12_load : ByteArray := prog_14_method_49_code
def yX12_load : MethodName := ⟨RX12, "load", "()V"⟩
abbrev cX12_dawnOf : ByteArray := prog_14_method_50_code
def yX12_dawnOf : MethodName := ⟨RX12, "dawnOf", "(I)I"⟩
abbrev cX12_duskOf : ByteArray := prog_14_method_51_code
def yX12_duskOf : MethodName := ⟨RX12, "duskOf", "(I)I"⟩
abbrev cX12_askOf : ByteArray := prog_14_method_52_code
def yX12_askOf : MethodName := ⟨RX12, "askOf", "(IIII)V"⟩
abbrev cX12_apart : ByteArray := prog_14_method_53_code
def yX12_apart : MethodName := ⟨RX12, "apart", "(II)I"⟩
abbrev cX12_isHinge : ByteArray := prog_14_method_54_code
def yX12_isHinge : MethodName := ⟨RX12, "isHinge", "(II)Z"⟩
abbrev cX12_layDate : ByteArray := prog_14_method_55_code
def yX12_layDate : MethodName := ⟨RX12, "layDate", "(I)V"⟩
abbrev cX12_loadDate : ByteArray := prog_14_method_56_code
def yX12_loadDate : MethodName := ⟨RX12, "loadDate", "(I)V"⟩
abbrev cX12_isAwake : ByteArray := prog_14_method_57_code
def yX12_isAwake : MethodName := ⟨RX12, "isAwake", "(II)Z"⟩
abbrev cX12_harmBy : ByteArray := prog_14_method_58_code
def yX12_harmBy : MethodName := ⟨RX12, "harmBy", "(II)I"⟩
abbrev cX12_harmAt : ByteArray := prog_14_method_59_code
def yX12_harmAt : MethodName := ⟨RX12, "harmAt", "(II)I"⟩
abbrev cX12_harmOf : ByteArray := prog_14_method_60_code
def yX12_harmOf : MethodName := ⟨RX12, "harmOf", "(I)I"⟩
abbrev cX12_allHarm : ByteArray := prog_14_method_61_code
def yX12_allHarm : MethodName := ⟨RX12, "allHarm", "()I"⟩
abbrev cX12_members : ByteArray := prog_14_method_62_code
def yX12_members : MethodName := ⟨RX12, "members", "(I)I"⟩
abbrev cX12_commonOf : ByteArray := prog_14_method_63_code
def yX12_commonOf : MethodName := ⟨RX12, "commonOf", "(II)I"⟩
abbrev cX12_canMeet : ByteArray := prog_14_method_64_code
def yX12_canMeet : MethodName := ⟨RX12, "canMeet", "(I)Z"⟩
abbrev cX12_canSet : ByteArray := prog_14_method_65_code
def yX12_canSet : MethodName := ⟨RX12, "canSet", "()I"⟩
abbrev cX12_awakeSet : ByteArray := prog_14_method_66_code
def yX12_awakeSet : MethodName := ⟨RX12, "awakeSet", "(I)I"⟩
abbrev cX12_person : ByteArray := prog_14_method_67_code
def yX12_person : MethodName := ⟨RX12, "person", "(II)I"⟩
abbrev cX12_meet : ByteArray := prog_14_method_68_code
def yX12_meet : MethodName := ⟨RX12, "meet", "(II)I"⟩
abbrev cX12_light : ByteArray := prog_14_method_69_code
def yX12_light : MethodName := ⟨RX12, "light", "(II)I"⟩
abbrev cX12_awake : ByteArray := prog_14_method_70_code
def yX12_awake : MethodName := ⟨RX12, "awake", "(II)I"⟩
abbrev cX12_noise : ByteArray := prog_14_method_71_code
def yX12_noise : MethodName := ⟨RX12, "noise", "(II)I"⟩
abbrev cX12_act : ByteArray := prog_14_method_72_code
def yX12_act : MethodName := ⟨RX12, "act", "()V"⟩
abbrev cX12_exchange : ByteArray := prog_14_method_73_code
def yX12_exchange : MethodName := ⟨RX12, "exchange", "(I)V"⟩
abbrev cX12_go : ByteArray := prog_14_method_74_code
def yX12_go : MethodName := ⟨RX12, "go", "(II)I"⟩
abbrev cX12_hush : ByteArray := prog_14_method_75_code
def yX12_hush : MethodName := ⟨RX12, "hush", "(I)I"⟩
abbrev cX12_goDate : ByteArray := prog_14_method_76_code
def yX12_goDate : MethodName := ⟨RX12, "goDate", "()V"⟩
abbrev cX12_hour : ByteArray := prog_14_method_77_code
def yX12_hour : MethodName := ⟨RX12, "hour", "()I"⟩
abbrev cX12_undo : ByteArray := prog_14_method_78_code
def yX12_undo : MethodName := ⟨RX12, "undo", "()Z"⟩
abbrev cX12_redo : ByteArray := prog_14_method_79_code
def yX12_redo : MethodName := ⟨RX12, "redo", "()Z"⟩
abbrev cX12_common : ByteArray := prog_14_method_80_code
def yX12_common : MethodName := ⟨RX12, "common", "(III)I"⟩
abbrev cX12_can : ByteArray := prog_14_method_81_code
def yX12_can : MethodName := ⟨RX12, "can", "(I)I"⟩
abbrev cX12_canOn : ByteArray := prog_14_method_82_code
def yX12_canOn : MethodName := ⟨RX12, "canOn", "(II)Z"⟩
abbrev cX12_never : ByteArray := prog_14_method_83_code
def yX12_never : MethodName := ⟨RX12, "never", "(I)I"⟩
abbrev cX12_dates : ByteArray := prog_14_method_84_code
def yX12_dates : MethodName := ⟨RX12, "dates", "(I)I"⟩
abbrev cX12_harmed : ByteArray := prog_14_method_85_code
def yX12_harmed : MethodName := ⟨RX12, "harmed", "(II)I"⟩
abbrev cX12_blissHere : ByteArray := prog_14_method_86_code
def yX12_blissHere : MethodName := ⟨RX12, "blissHere", "()I"⟩
abbrev cX12_bliss : ByteArray := prog_14_method_87_code
def yX12_bliss : MethodName := ⟨RX12, "bliss", "(I)I"⟩
abbrev cX12_laySides : ByteArray := prog_14_method_88_code
def yX12_laySides : MethodName := ⟨RX12, "laySides", "(I)I"⟩
abbrev cX12_putSides : ByteArray := prog_14_method_89_code
def yX12_putSides : MethodName := ⟨RX12, "putSides", "()V"⟩
abbrev cX12_cut : ByteArray := prog_14_method_90_code
def yX12_cut : MethodName := ⟨RX12, "cut", "()I"⟩
abbrev cX12_joyHere : ByteArray := prog_14_method_91_code
def yX12_joyHere : MethodName := ⟨RX12, "joyHere", "(I)I"⟩
abbrev cX12_joy : ByteArray := prog_14_method_92_code
def yX12_joy : MethodName := ⟨RX12, "joy", "(II)I"⟩
abbrev cX12_lonely : ByteArray := prog_14_method_93_code
def yX12_lonely : MethodName := ⟨RX12, "lonely", "(I)I"⟩
abbrev cX12_hinges : ByteArray := prog_14_method_94_code
def yX12_hinges : MethodName := ⟨RX12, "hinges", "(I)I"⟩
abbrev cX12_loudest : ByteArray := prog_14_method_95_code
def yX12_loudest : MethodName := ⟨RX12, "loudest", "(II)I"⟩
abbrev cX12_bestSide : ByteArray := prog_14_method_96_code
def yX12_bestSide : MethodName := ⟨RX12, "bestSide", "(I)I"⟩
abbrev cX12_rest : ByteArray := prog_14_method_97_code
def yX12_rest : MethodName := ⟨RX12, "rest", "()I"⟩
abbrev cX12_areServed : ByteArray := prog_14_method_98_code
def yX12_areServed : MethodName := ⟨RX12, "areServed", "(I)Z"⟩
abbrev cX12_shop : ByteArray := prog_14_method_99_code
def yX12_shop : MethodName := ⟨RX12, "shop", "(I)I"⟩
abbrev cX12_haveMeet : ByteArray := prog_14_method_100_code
def yX12_haveMeet : MethodName := ⟨RX12, "haveMeet", "(II)Z"⟩
abbrev cX12_handedOn : ByteArray := prog_14_method_101_code
def yX12_handedOn : MethodName := ⟨RX12, "handedOn", "(II)I"⟩
abbrev cX12_goLetters : ByteArray := prog_14_method_102_code
def yX12_goLetters : MethodName := ⟨RX12, "goLetters", "(I)I"⟩
abbrev cX12_post : ByteArray := prog_14_method_103_code
def yX12_post : MethodName := ⟨RX12, "post", "(II)I"⟩
abbrev cX12_spread : ByteArray := prog_14_method_104_code
def yX12_spread : MethodName := ⟨RX12, "spread", "(II)I"⟩
abbrev cX12_wake : ByteArray := prog_14_method_105_code
def yX12_wake : MethodName := ⟨RX12, "wake", "(III)I"⟩
abbrev cX12_divisor : ByteArray := prog_14_method_106_code
def yX12_divisor : MethodName := ⟨RX12, "divisor", "(II)I"⟩
abbrev cX12_odds : ByteArray := prog_14_method_107_code
def yX12_odds : MethodName := ⟨RX12, "odds", "(III)I"⟩
abbrev cX12_lies : ByteArray := prog_14_method_108_code
def yX12_lies : MethodName := ⟨RX12, "lies", "(I)I"⟩
abbrev cX12_isLitPlace : ByteArray := prog_14_method_109_code
def yX12_isLitPlace : MethodName := ⟨RX12, "isLitPlace", "(II)Z"⟩
abbrev cX12_lit : ByteArray := prog_14_method_110_code
def yX12_lit : MethodName := ⟨RX12, "lit", "(IIZ)I"⟩
abbrev cX12_untell : ByteArray := prog_14_method_111_code
def yX12_untell : MethodName := ⟨RX12, "untell", "(I)Z"⟩
abbrev cX12_later : ByteArray := prog_14_method_112_code
def yX12_later : MethodName := ⟨RX12, "later", "(I)I"⟩
abbrev cX12_lightsAt : ByteArray := prog_14_method_113_code
def yX12_lightsAt : MethodName := ⟨RX12, "lightsAt", "(II)I"⟩
abbrev cX12_isFit : ByteArray := prog_14_method_114_code
def yX12_isFit : MethodName := ⟨RX12, "isFit", "(II)Z"⟩
abbrev cX12_layFits : ByteArray := prog_14_method_115_code
def yX12_layFits : MethodName := ⟨RX12, "layFits", "(II)I"⟩
abbrev cX12_fits : ByteArray := prog_14_method_116_code
def yX12_fits : MethodName := ⟨RX12, "fits", "(I)I"⟩
abbrev cX12_sure : ByteArray := prog_14_method_117_code
def yX12_sure : MethodName := ⟨RX12, "sure", "(II)I"⟩
abbrev cX12_ask : ByteArray := prog_14_method_118_code
def yX12_ask : MethodName := ⟨RX12, "ask", "(III)I"⟩
abbrev cX12_isBox : ByteArray := prog_14_method_119_code
def yX12_isBox : MethodName := ⟨RX12, "isBox", "(I)Z"⟩
abbrev cX12_image : ByteArray := prog_14_method_120_code
def yX12_image : MethodName := ⟨RX12, "image", "(I)I"⟩
abbrev cX12_back : ByteArray := prog_14_method_121_code
def yX12_back : MethodName := ⟨RX12, "back", "(I)I"⟩
abbrev cX12_about : ByteArray := prog_14_method_122_code
def yX12_about : MethodName := ⟨RX12, "about", "(I)I"⟩
def RJ6 : String := "java/lang/Integer"
def TJ6 : u_T := fun k => match k with
  | _ => ("", "", "", false)
def tyJ6 : Nat → FieldType := fun k => match k with
  | _ => .int
theorem nmJ6 : ∀ a, a < 0 → ∀ b, b < 0 → a ≠ b → (TJ6 a).2.1 ≠ (TJ6 b).2.1 := by decide +kernel
theorem tyJ6_ok : ∀ k, k < 0 → parseFieldDescriptor (TJ6 k).2.2.1 = some (tyJ6 k) := by decide +kernel
abbrev cJ6_bitCount_0f7a4 : ByteArray := prog_16_method_49_code
def yJ6_bitCount_0f7a4 : MethodName := ⟨RJ6, "bitCount", "(I)I"⟩
def RJ7 : String := "java/util/Arrays"
def TJ7 : u_T := fun k => match k with
  | _ => ("", "", "", false)
def tyJ7 : Nat → FieldType := fun k => match k with
  | _ => .int
theorem nmJ7 : ∀ a, a < 0 → ∀ b, b < 0 → a ≠ b → (TJ7 a).2.1 ≠ (TJ7 b).2.1 := by decide +kernel
theorem tyJ7_ok : ∀ k, k < 0 → parseFieldDescriptor (TJ7 k).2.2.1 = some (tyJ7 k) := by decide +kernel
abbrev cJ7_fill_53178 : ByteArray := prog_22_method_103_code
def yJ7_fill_53178 : MethodName := ⟨RJ7, "fill", "([II)V"⟩
def RL : String := "HingeTownLaw"
abbrev cL_law : ByteArray := code
def yL_law : MethodName := ⟨RL, "law", "([I)Z"⟩
end
section
/-! ===== base: memories, worlds, the judgement JR ===== -/
/-- a memory: ints, longs and places of cells, each by (place, slot or index) -/
abbrev Mem : Type := (Nat → Nat → Int32) × (Nat → Nat → Int64) × (Nat → Nat → Nat)
def sI (m : Mem) (r k : Nat) (v : Int32) : Mem := (va_up m.1 r (upd (m.1 r) k v), m.2)
def sL (m : Mem) (r k : Nat) (v : Int64) : Mem := (m.1, va_up m.2.1 r (vp_updL (m.2.1 r) k v), m.2.2)
def sR (m : Mem) (r k v : Nat) : Mem := (m.1, m.2.1, va_up m.2.2 r (va_up (m.2.2 r) k v))
/-- a whole row of ints at once -/
def sW (m : Mem) (r : Nat) (f : Nat → Int32) : Mem := (va_up m.1 r f, m.2)
/-- the launch's numbers: classes and slots; array classes of int, byte, long, boolean; addresses of the places -/
abbrev Gt : Type := va_G × (ClassId × ClassId × ClassId × ClassId) × (Nat → Nat)
abbrev jcl : List vw_C := [(RX0, TX0, 4), (RX1, TX1, 7), (RX2, TX2, 4), (RX3, TX3, 4), (RX3, TX3, 4), (RX5, TX5, 9), (RX6, TX6, 19), (RX7, TX7, 6), (RX8, TX8, 7), (RX9, TX9, 4), (RX10, TX10, 8), (RX11, TX11, 10), (RX12, TX12, 75)]
def tyG (G : Gt) : List (ClassId × FieldType) := [(G.2.1.1, .int), (G.2.1.2.1, .byte), (G.2.1.2.2.1, .long), (G.2.1.2.2.2, .boolean)]
def WT : List Cond := lw_tbl.filter goodWord
theorem wt_mem {w : Cond} (i : Nat) (h : lw_tbl[i]? = some w) (g : goodWord w = true) : w ∈ WT := List.mem_filter.mpr ⟨List.mem_of_getElem? h, g⟩
def isNest : Cond → Bool
  | .fieldLinkNest _ _ _ _ _ _ => true
  | .methodLinkNest _ _ _ _ => true
  | _ => false
def nestW : List Cond := tables_1.filter isNest
theorem nw_mem {w : Cond} (i : Nat) (h : tables_1[i]? = some w) (g : isNest w = true) : w ∈ nestW := List.mem_filter.mpr ⟨List.mem_of_getElem? h, g⟩
def NW (U : State) : Prop := ∀ w ∈ nestW, va_Nw w U
theorem NW.warm {s U : State} (hW : s.WarmedH U.vm) (h : NW s) : NW U := by
  intro w hw
  have h1 := (List.mem_filter.mp hw).2
  have h2 := h w hw
  cases w <;> first | exact va_Nw.warmF hW h2 | exact va_Nw.warmM hW h2 | (exact absurd h1 (by simp [isNest]))
theorem NW.calling {U : State} (g : JFrame) (mk : MethodId) (a : Array Value) (h : NW U) : NW (U.calling g mk a) := by
  intro w hw
  have h1 := (List.mem_filter.mp hw).2
  have h2 := h w hw
  cases w <;> first | exact va_Nw.same rfl (u := U) (U := U.calling g mk a) rfl h2 | (exact absurd h1 (by simp [isNest]))
/-- which cells are the world's -/
def inA (G : Gt) (n : Nat) : Nat → Prop := fun q => ∃ k, k < n ∧ q = G.2.2 k
abbrev Wf : Type := Gt → Mem → va_W
def rmv (lev : Nat) : Room := { frames := lev, cells := 0, slots := 0, locals := 64 * lev }
/-- what a method's end says: the answer, the new memory, what else is as it was -/
def Qo (G : Gt) (wf : Wf) (n : Nat) (o : Option Value × Mem) : Array Value → State → Outcome → State → Prop := fun _ st oc t => oc = .returned o.1 ∧ va_P G.1 jcl (wf G o.2) t.heap ∧ va_F (inA G n) st t
/-- what a method's start says -/
def Hd (G : Gt) (wf : Wf) (m : Mem) (U : State) : Prop := va_P G.1 jcl (wf G m) U.heap ∧ va_K G.1 jcl (tyG G) U ∧ NW U
/-- the contract of a method that makes nothing -/
def Ct (l : Launch) (G : Gt) (wf : Wf) (n : Nat) (y : MethodName) (bytes : ByteArray) (maxL : Nat) (ret : Option FieldType) (lev : Nat) (as : List Value) (m : Mem) (o : Option Value × Mem) : Prop :=
  Met l y (.code y bytes maxL ret :: WT) (rmv lev) (va_Pc as (Hd G wf m)) (Qo G wf n o) 0 0 (inA G n)
/-- the machine's context, and the world -/
abbrev Cx : Type := Program × Launch × Env × Room × State × MethodId × Array Value × List Frame × Method × Code
abbrev Zx : Type := Cx × Gt × Wf × Nat
def aL : Nat → List (Option Value) → List (Nat × Value)
  | _, [] => []
  | i, none :: r => aL (i + 1) r
  | i, some v :: r => (i, v) :: aL (i + 1) r
theorem aL_mem : ∀ (ls : List (Option Value)) (b i : Nat) (v : Value), (i, v) ∈ aL b ls ↔ ∃ j, i = b + j ∧ ls[j]? = some (some v)
  | [], b, i, v => by simp [aL]
  | none :: r, b, i, v => by
    rw [aL, aL_mem r]
    constructor
    · rintro ⟨j, rfl, h⟩
      exact ⟨j + 1, by omega, by simpa using h⟩
    · rintro ⟨j, rfl, h⟩
      cases j with
      | zero => simp at h
      | succ j => exact ⟨j, by omega, by simpa using h⟩
  | some w :: r, b, i, v => by
    rw [aL, List.mem_cons, aL_mem r]
    constructor
    · rintro (h | ⟨j, rfl, h⟩)
      · cases h
        exact ⟨0, rfl, by simp⟩
      · exact ⟨j + 1, by omega, by simpa using h⟩
    · rintro ⟨j, rfl, h⟩
      cases j with
      | zero =>
        left
        simp at h
        subst h
        rfl
      | succ j => exact Or.inr ⟨j, by omega, by simpa using h⟩
def lO (Ls : Array Slot) (ls : List (Option Value)) : Prop := lv_has Ls ls.length (aL 0 ls)
theorem lO_at {Ls : Array Slot} {ls : List (Option Value)} (h : lO Ls ls) {i : Nat} {v : Value} (hi : ls[i]? = some (some v)) : Ls[i]? = some (.val v) := h.2.2 (i, v) ((aL_mem ls 0 i v).mpr ⟨i, by omega, hi⟩)
/-- is there the first half of a long just ahead of this place? -/
def c2at (ls : List (Option Value)) : Nat → Bool
  | 0 => false
  | j + 1 => match ls[j]? with
    | some (some v) => v.category == 2
    | _ => false
theorem lO_set {ls : List (Option Value)} {i : Nat} {v : Value} {o : Option Value} (hi : ls[i]? = some o) (hc : c2at ls i = false) {Ls : Array Slot} (h : lv_has Ls ls.length ((i, v) :: (aL 0 ls).filter (fun q => !(q.1 == i) && !(q.1 + 1 == i && q.2.category == 2)))) : lO Ls (ls.set i (some v)) := by
  refine ⟨by rw [List.length_set]; exact h.1, h.2.1, fun q hq => h.2.2 q ?_⟩
  obtain ⟨j, w⟩ := q
  obtain ⟨j', e, hj⟩ := (aL_mem _ 0 j w).mp hq
  have e : j = j' := by omega
  subst e
  by_cases hji : j = i
  · subst hji
    rw [List.getElem?_set_self (List.getElem?_eq_some_iff.mp hi).1] at hj
    cases hj
    exact List.mem_cons_self
  · rw [List.getElem?_set_ne (Ne.symm hji)] at hj
    refine List.mem_cons_of_mem _ (List.mem_filter.mpr ⟨(aL_mem _ 0 j w).mpr ⟨j, by omega, hj⟩, ?_⟩)
    have h1 : (j == i) = false := by simpa using hji
    have h2 : (j + 1 == i && w.category == 2) = false := by
      by_cases h3 : j + 1 = i
      · subst h3
        simp only [c2at, hj] at hc
        simp [hc]
      · simp [h3]
    simp only [h1, h2]
    rfl
/-- fewer locals are known -/
def lwk : List (Option Value) → List (Option Value) → Prop
  | [], [] => True
  | none :: r, _ :: r' => lwk r r'
  | some v :: r, some v' :: r' => v = v' ∧ lwk r r'
  | _, _ => False
theorem lwk_get : ∀ (a b : List (Option Value)), lwk a b → a.length = b.length ∧ ∀ (i : Nat) (v : Value), a[i]? = some (some v) → b[i]? = some (some v)
  | [], [], _ => ⟨rfl, fun _ _ h => h⟩
  | none :: r, _ :: r', h => by
    obtain ⟨h1, h2⟩ := lwk_get r r' h
    refine ⟨by simp [h1], fun i v hi => ?_⟩
    cases i with
    | zero => simp at hi
    | succ i => simpa using h2 i v (by simpa using hi)
  | some v :: r, some v' :: r', h => by
    obtain ⟨h1, h2⟩ := lwk_get r r' h.2
    refine ⟨by simp [h1], fun i w hi => ?_⟩
    cases i with
    | zero =>
      have e := h.1
      subst e
      exact hi
    | succ i => simpa using h2 i w (by simpa using hi)
  | [], _ :: _, h => h.elim
  | some _ :: _, none :: _, h => h.elim
  | some _ :: _, [], h => h.elim
  | none :: _, [], h => h.elim
theorem lO_wk {a b : List (Option Value)} (hab : lwk a b) {Ls : Array Slot} (h : lO Ls b) : lO Ls a := by
  obtain ⟨h1, h2⟩ := lwk_get a b hab
  refine ⟨by rw [h1]; exact h.1, h.2.1, fun q hq => ?_⟩
  obtain ⟨j, w⟩ := q
  obtain ⟨j', e, hj⟩ := (aL_mem _ 0 j w).mp hq
  have e : j = j' := by omega
  subst e
  exact lO_at h (h2 j w hj)
/-- the judgement: from here the machine comes to the method's end with what E says, if E says something -/
def JR {α : Type} (Z : Zx) (cv : α → Option Value × Mem) (m : Mem) (pc : Nat) (ls : List (Option Value)) (st : List Value) (E : Option α) : Prop :=
  ∀ a, E = some a → ∀ (H : Heap) (locs : List Loc) (Ls : Array Slot), va_P Z.2.1.1 jcl (Z.2.2.1 Z.2.1 m) H → va_S (inA Z.2.1 Z.2.2.2) Z.1.2.2.2.2.1.heap H locs → lO Ls ls →
    W Z.1.1 Z.1.2.1 Z.1.2.2.1 Z.1.2.2.2.1 Z.1.2.2.2.2.1 Z.1.2.2.2.2.2.1 Z.1.2.2.2.2.2.2.1 Z.1.2.2.2.2.2.2.2.1 Z.1.2.2.2.2.2.2.2.2.1 Z.1.2.2.2.2.2.2.2.2.2 H locs 0 0
      (MQ Z.1.2.2.2.2.2.2.2.1 (Qo Z.2.1 Z.2.2.1 Z.2.2.2 (cv a)) Z.1.2.2.2.2.2.2.1 Z.1.2.2.2.2.1 0 0 (inA Z.2.1 Z.2.2.2)) (F0 Z.1.2.2.2.2.2.1 pc Ls st)
/-- what holds in a method's body -/
def OkX (Z : Zx) (cc : ByteArray) (own : String) (nL : Nat) (ret : Option FieldType) (lev : Nat) : Prop :=
  Z.1.1.tables.exec = Jvm.exec ∧ Z.1.2.2.2.2.2.2.2.2.2.code = cc ∧ Z.1.2.2.2.2.2.2.2.2.1.sig.returnType = ret ∧ Z.1.2.2.2.2.2.2.2.2.2.maxLocals = nL ∧ Z.1.2.2.2.2.1.vm.findClass own = some Z.1.2.2.2.2.2.1.cls ∧ (∀ w ∈ WT, w.before Z.1.2.2.2.2.2.2.1 Z.1.2.2.2.2.1 = true) ∧ va_K Z.2.1.1 jcl (tyG Z.2.1) Z.1.2.2.2.2.1 ∧ NW Z.1.2.2.2.2.1 ∧ Z.1.2.2.2.2.2.2.2.2.1.locks = false ∧ Z.1.2.2.2.1 = rmv lev ∧ (∀ m, va_D (inA Z.2.1 Z.2.2.2) (Z.2.2.1 Z.2.1 m))
/-- how an instruction is read: it, its length, the next place -/
def DD (cc : ByteArray) (pc : Nat) (i : Instr) (len nx : Nat) : Prop := decode cc pc = .ok (i, len) ∧ pc + len = nx
end
section
/-! ===== rules, an instruction each ===== -/
theorem j_iconst {α : Type} {Z : Zx} {cc : ByteArray} {own : String} {nL : Nat} {ret : Option FieldType} {lev : Nat} (h : OkX Z cc own nL ret lev) {cv : α → Option Value × Mem} {m : Mem} {pc nx : Nat} {ls : List (Option Value)} {st : List Value} {E : Option α} {n : Int} {v : Int32} (d : DD cc pc (.iconst n) 1 nx) (hv : Int32.ofInt n = v) (k : JR Z cv m nx ls (.int v :: st) E) : JR Z cv m pc ls (st) E := by
  obtain ⟨d, rfl⟩ := d
  intro a ha H locs Ls hP hS hl
  exact lv_iconst h.1 h.2.1 d hv (k a ha H locs Ls hP hS hl)
theorem j_bipush {α : Type} {Z : Zx} {cc : ByteArray} {own : String} {nL : Nat} {ret : Option FieldType} {lev : Nat} (h : OkX Z cc own nL ret lev) {cv : α → Option Value × Mem} {m : Mem} {pc nx : Nat} {ls : List (Option Value)} {st : List Value} {E : Option α} {n : Int} {v : Int32} (d : DD cc pc (.bipush n) 2 nx) (hv : (Int8.ofInt n).toInt32 = v) (k : JR Z cv m nx ls (.int v :: st) E) : JR Z cv m pc ls (st) E := by
  obtain ⟨d, rfl⟩ := d
  intro a ha H locs Ls hP hS hl
  exact lv_bipush h.1 h.2.1 d hv (k a ha H locs Ls hP hS hl)
theorem j_sipush {α : Type} {Z : Zx} {cc : ByteArray} {own : String} {nL : Nat} {ret : Option FieldType} {lev : Nat} (h : OkX Z cc own nL ret lev) {cv : α → Option Value × Mem} {m : Mem} {pc nx : Nat} {ls : List (Option Value)} {st : List Value} {E : Option α} {n : Int} {v : Int32} (d : DD cc pc (.sipush n) 3 nx) (hv : (Int16.ofInt n).toInt32 = v) (k : JR Z cv m nx ls (.int v :: st) E) : JR Z cv m pc ls (st) E := by
  obtain ⟨d, rfl⟩ := d
  intro a ha H locs Ls hP hS hl
  exact lv_sipush h.1 h.2.1 d hv (k a ha H locs Ls hP hS hl)
theorem j_lconst {α : Type} {Z : Zx} {cc : ByteArray} {own : String} {nL : Nat} {ret : Option FieldType} {lev : Nat} (h : OkX Z cc own nL ret lev) {cv : α → Option Value × Mem} {m : Mem} {pc nx : Nat} {ls : List (Option Value)} {st : List Value} {E : Option α} {n : Fin 2} {v : Int64} (d : DD cc pc (.lconst n) 1 nx) (hv : Int64.ofNat (n : Nat) = v) (k : JR Z cv m nx ls (.long v :: st) E) : JR Z cv m pc ls (st) E := by
  obtain ⟨d, rfl⟩ := d
  intro a ha H locs Ls hP hS hl
  exact lv_lconst h.1 h.2.1 d hv (k a ha H locs Ls hP hS hl)
theorem j_ldc {α : Type} {Z : Zx} {cc : ByteArray} {own : String} {nL : Nat} {ret : Option FieldType} {lev : Nat} (h : OkX Z cc own nL ret lev) {cv : α → Option Value × Mem} {m : Mem} {pc nx : Nat} {ls : List (Option Value)} {st : List Value} {E : Option α} {idx : Nat} {v : Int32} (d : DD cc pc (.ldc idx) 2 nx) (hw : Cond.constant own idx v ∈ WT) (k : JR Z cv m nx ls (.int v :: st) E) : JR Z cv m pc ls (st) E := by
  obtain ⟨d, rfl⟩ := d
  intro a ha H locs Ls hP hS hl
  exact lv_ldc h.1 h.2.1 h.2.2.2.2.1 (h.2.2.2.2.2.1 _ hw) d (k a ha H locs Ls hP hS hl)
theorem j_ldc2 {α : Type} {Z : Zx} {cc : ByteArray} {own : String} {nL : Nat} {ret : Option FieldType} {lev : Nat} (h : OkX Z cc own nL ret lev) {cv : α → Option Value × Mem} {m : Mem} {pc nx : Nat} {ls : List (Option Value)} {st : List Value} {E : Option α} {idx : Nat} {v : Int64} (d : DD cc pc (.ldc2_w idx) 3 nx) (hw : Cond.constantLong own idx v ∈ WT) (k : JR Z cv m nx ls (.long v :: st) E) : JR Z cv m pc ls (st) E := by
  obtain ⟨d, rfl⟩ := d
  intro a ha H locs Ls hP hS hl
  exact lv_ldc2 h.1 h.2.1 h.2.2.2.2.1 (h.2.2.2.2.2.1 _ hw) d (k a ha H locs Ls hP hS hl)
theorem j_iload_n {α : Type} {Z : Zx} {cc : ByteArray} {own : String} {nL : Nat} {ret : Option FieldType} {lev : Nat} (h : OkX Z cc own nL ret lev) {cv : α → Option Value × Mem} {m : Mem} {pc nx : Nat} {ls : List (Option Value)} {st : List Value} {E : Option α} {i : Fin 4} {x : Int32} (d : DD cc pc (.iload_n i) 1 nx) (hi : ls[(i : Nat)]? = some (some (.int x))) (k : JR Z cv m nx ls (.int x :: st) E) : JR Z cv m pc ls (st) E := by
  obtain ⟨d, rfl⟩ := d
  intro a ha H locs Ls hP hS hl
  exact lv_iload_n h.1 h.2.1 d rfl (lO_at hl hi) (k a ha H locs Ls hP hS hl)
theorem j_iload {α : Type} {Z : Zx} {cc : ByteArray} {own : String} {nL : Nat} {ret : Option FieldType} {lev : Nat} (h : OkX Z cc own nL ret lev) {cv : α → Option Value × Mem} {m : Mem} {pc nx : Nat} {ls : List (Option Value)} {st : List Value} {E : Option α} {i : Nat} {x : Int32} (d : DD cc pc (.iload i) 2 nx) (hi : ls[i]? = some (some (.int x))) (k : JR Z cv m nx ls (.int x :: st) E) : JR Z cv m pc ls (st) E := by
  obtain ⟨d, rfl⟩ := d
  intro a ha H locs Ls hP hS hl
  exact lv_iload h.1 h.2.1 d (lO_at hl hi) (k a ha H locs Ls hP hS hl)
theorem j_lload_n {α : Type} {Z : Zx} {cc : ByteArray} {own : String} {nL : Nat} {ret : Option FieldType} {lev : Nat} (h : OkX Z cc own nL ret lev) {cv : α → Option Value × Mem} {m : Mem} {pc nx : Nat} {ls : List (Option Value)} {st : List Value} {E : Option α} {i : Fin 4} {x : Int64} (d : DD cc pc (.lload_n i) 1 nx) (hi : ls[(i : Nat)]? = some (some (.long x))) (k : JR Z cv m nx ls (.long x :: st) E) : JR Z cv m pc ls (st) E := by
  obtain ⟨d, rfl⟩ := d
  intro a ha H locs Ls hP hS hl
  exact lv_lload_n h.1 h.2.1 d rfl (lO_at hl hi) (k a ha H locs Ls hP hS hl)
theorem j_lload {α : Type} {Z : Zx} {cc : ByteArray} {own : String} {nL : Nat} {ret : Option FieldType} {lev : Nat} (h : OkX Z cc own nL ret lev) {cv : α → Option Value × Mem} {m : Mem} {pc nx : Nat} {ls : List (Option Value)} {st : List Value} {E : Option α} {i : Nat} {x : Int64} (d : DD cc pc (.lload i) 2 nx) (hi : ls[i]? = some (some (.long x))) (k : JR Z cv m nx ls (.long x :: st) E) : JR Z cv m pc ls (st) E := by
  obtain ⟨d, rfl⟩ := d
  intro a ha H locs Ls hP hS hl
  exact lv_lload h.1 h.2.1 d (lO_at hl hi) (k a ha H locs Ls hP hS hl)
theorem j_aload_n {α : Type} {Z : Zx} {cc : ByteArray} {own : String} {nL : Nat} {ret : Option FieldType} {lev : Nat} (h : OkX Z cc own nL ret lev) {cv : α → Option Value × Mem} {m : Mem} {pc nx : Nat} {ls : List (Option Value)} {st : List Value} {E : Option α} {i : Fin 4} {x : Nat} (d : DD cc pc (.aload_n i) 1 nx) (hi : ls[(i : Nat)]? = some (some (.ref x))) (k : JR Z cv m nx ls (.ref x :: st) E) : JR Z cv m pc ls (st) E := by
  obtain ⟨d, rfl⟩ := d
  intro a ha H locs Ls hP hS hl
  exact lv_aload_n h.1 h.2.1 d rfl (lO_at hl hi) (k a ha H locs Ls hP hS hl)
theorem j_aload {α : Type} {Z : Zx} {cc : ByteArray} {own : String} {nL : Nat} {ret : Option FieldType} {lev : Nat} (h : OkX Z cc own nL ret lev) {cv : α → Option Value × Mem} {m : Mem} {pc nx : Nat} {ls : List (Option Value)} {st : List Value} {E : Option α} {i : Nat} {x : Nat} (d : DD cc pc (.aload i) 2 nx) (hi : ls[i]? = some (some (.ref x))) (k : JR Z cv m nx ls (.ref x :: st) E) : JR Z cv m pc ls (st) E := by
  obtain ⟨d, rfl⟩ := d
  intro a ha H locs Ls hP hS hl
  exact lv_aload h.1 h.2.1 d (lO_at hl hi) (k a ha H locs Ls hP hS hl)
theorem j_istore_n {α : Type} {Z : Zx} {cc : ByteArray} {own : String} {nL : Nat} {ret : Option FieldType} {lev : Nat} (h : OkX Z cc own nL ret lev) {cv : α → Option Value × Mem} {m : Mem} {pc nx : Nat} {ls : List (Option Value)} {st : List Value} {E : Option α} {i : Fin 4} {x : Int32} {o : Option Value} (d : DD cc pc (.istore_n i) 1 nx) (hi : ls[(i : Nat)]? = some o) (hc : c2at ls (i : Nat) = false) (k : JR Z cv m nx (ls.set (i : Nat) (some (.int x))) st E) : JR Z cv m pc ls (.int x :: st) E := by
  obtain ⟨d, rfl⟩ := d
  intro a ha H locs Ls hP hS hl
  exact lv_istore_n h.1 h.2.1 d rfl hl (List.getElem?_eq_some_iff.mp hi).1 rfl (fun Ls hl2 => k a ha H locs Ls hP hS (lO_set hi hc hl2))
theorem j_istore {α : Type} {Z : Zx} {cc : ByteArray} {own : String} {nL : Nat} {ret : Option FieldType} {lev : Nat} (h : OkX Z cc own nL ret lev) {cv : α → Option Value × Mem} {m : Mem} {pc nx : Nat} {ls : List (Option Value)} {st : List Value} {E : Option α} {i : Nat} {x : Int32} {o : Option Value} (d : DD cc pc (.istore i) 2 nx) (hi : ls[i]? = some o) (hc : c2at ls i = false) (k : JR Z cv m nx (ls.set i (some (.int x))) st E) : JR Z cv m pc ls (.int x :: st) E := by
  obtain ⟨d, rfl⟩ := d
  intro a ha H locs Ls hP hS hl
  exact lv_istore h.1 h.2.1 d hl (List.getElem?_eq_some_iff.mp hi).1 rfl (fun Ls hl2 => k a ha H locs Ls hP hS (lO_set hi hc hl2))
theorem j_astore_n {α : Type} {Z : Zx} {cc : ByteArray} {own : String} {nL : Nat} {ret : Option FieldType} {lev : Nat} (h : OkX Z cc own nL ret lev) {cv : α → Option Value × Mem} {m : Mem} {pc nx : Nat} {ls : List (Option Value)} {st : List Value} {E : Option α} {i : Fin 4} {x : Nat} {o : Option Value} (d : DD cc pc (.astore_n i) 1 nx) (hi : ls[(i : Nat)]? = some o) (hc : c2at ls (i : Nat) = false) (k : JR Z cv m nx (ls.set (i : Nat) (some (.ref x))) st E) : JR Z cv m pc ls (.ref x :: st) E := by
  obtain ⟨d, rfl⟩ := d
  intro a ha H locs Ls hP hS hl
  exact lv_astore_n h.1 h.2.1 d rfl hl (List.getElem?_eq_some_iff.mp hi).1 rfl (fun Ls hl2 => k a ha H locs Ls hP hS (lO_set hi hc hl2))
theorem j_astore {α : Type} {Z : Zx} {cc : ByteArray} {own : String} {nL : Nat} {ret : Option FieldType} {lev : Nat} (h : OkX Z cc own nL ret lev) {cv : α → Option Value × Mem} {m : Mem} {pc nx : Nat} {ls : List (Option Value)} {st : List Value} {E : Option α} {i : Nat} {x : Nat} {o : Option Value} (d : DD cc pc (.astore i) 2 nx) (hi : ls[i]? = some o) (hc : c2at ls i = false) (k : JR Z cv m nx (ls.set i (some (.ref x))) st E) : JR Z cv m pc ls (.ref x :: st) E := by
  obtain ⟨d, rfl⟩ := d
  intro a ha H locs Ls hP hS hl
  exact lv_astore h.1 h.2.1 d hl (List.getElem?_eq_some_iff.mp hi).1 rfl (fun Ls hl2 => k a ha H locs Ls hP hS (lO_set hi hc hl2))
theorem j_iinc {α : Type} {Z : Zx} {cc : ByteArray} {own : String} {nL : Nat} {ret : Option FieldType} {lev : Nat} (h : OkX Z cc own nL ret lev) {cv : α → Option Value × Mem} {m : Mem} {pc nx : Nat} {ls : List (Option Value)} {st : List Value} {E : Option α} {i : Nat} {n : Int} {x v : Int32} (d : DD cc pc (.iinc i n) 3 nx) (hi : ls[i]? = some (some (.int x))) (hv : x + Int32.ofInt n = v) (hc : c2at ls i = false) (k : JR Z cv m nx (ls.set i (some (.int v))) st E) : JR Z cv m pc ls st E := by
  obtain ⟨d, rfl⟩ := d
  intro a ha H locs Ls hP hS hl
  obtain ⟨kk, hk⟩ := List.getElem?_of_mem ((aL_mem ls 0 i (.int x)).mpr ⟨i, by omega, hi⟩)
  exact lv_iinc h.1 h.2.1 d hl hk hv (List.getElem?_eq_some_iff.mp hi).1 rfl (fun Ls hl2 => k a ha H locs Ls hP hS (lO_set hi hc hl2))
theorem j_iadd {α : Type} {Z : Zx} {cc : ByteArray} {own : String} {nL : Nat} {ret : Option FieldType} {lev : Nat} (h : OkX Z cc own nL ret lev) {cv : α → Option Value × Mem} {m : Mem} {pc nx : Nat} {ls : List (Option Value)} {st : List Value} {E : Option α} {x y : Int32} (d : DD cc pc (.iadd) 1 nx) (k : JR Z cv m nx ls (.int (x + y) :: st) E) : JR Z cv m pc ls (.int y :: .int x :: st) E := by
  obtain ⟨d, rfl⟩ := d
  intro a ha H locs Ls hP hS hl
  exact lv_iadd h.1 h.2.1 d (k a ha H locs Ls hP hS hl)
theorem j_isub {α : Type} {Z : Zx} {cc : ByteArray} {own : String} {nL : Nat} {ret : Option FieldType} {lev : Nat} (h : OkX Z cc own nL ret lev) {cv : α → Option Value × Mem} {m : Mem} {pc nx : Nat} {ls : List (Option Value)} {st : List Value} {E : Option α} {x y : Int32} (d : DD cc pc (.isub) 1 nx) (k : JR Z cv m nx ls (.int (x - y) :: st) E) : JR Z cv m pc ls (.int y :: .int x :: st) E := by
  obtain ⟨d, rfl⟩ := d
  intro a ha H locs Ls hP hS hl
  exact lv_isub h.1 h.2.1 d (k a ha H locs Ls hP hS hl)
theorem j_imul {α : Type} {Z : Zx} {cc : ByteArray} {own : String} {nL : Nat} {ret : Option FieldType} {lev : Nat} (h : OkX Z cc own nL ret lev) {cv : α → Option Value × Mem} {m : Mem} {pc nx : Nat} {ls : List (Option Value)} {st : List Value} {E : Option α} {x y : Int32} (d : DD cc pc (.imul) 1 nx) (k : JR Z cv m nx ls (.int (x * y) :: st) E) : JR Z cv m pc ls (.int y :: .int x :: st) E := by
  obtain ⟨d, rfl⟩ := d
  intro a ha H locs Ls hP hS hl
  exact lv_imul h.1 h.2.1 d (k a ha H locs Ls hP hS hl)
theorem j_iand {α : Type} {Z : Zx} {cc : ByteArray} {own : String} {nL : Nat} {ret : Option FieldType} {lev : Nat} (h : OkX Z cc own nL ret lev) {cv : α → Option Value × Mem} {m : Mem} {pc nx : Nat} {ls : List (Option Value)} {st : List Value} {E : Option α} {x y : Int32} (d : DD cc pc (.iand) 1 nx) (k : JR Z cv m nx ls (.int (x &&& y) :: st) E) : JR Z cv m pc ls (.int y :: .int x :: st) E := by
  obtain ⟨d, rfl⟩ := d
  intro a ha H locs Ls hP hS hl
  exact lv_iand h.1 h.2.1 d (k a ha H locs Ls hP hS hl)
theorem j_ior {α : Type} {Z : Zx} {cc : ByteArray} {own : String} {nL : Nat} {ret : Option FieldType} {lev : Nat} (h : OkX Z cc own nL ret lev) {cv : α → Option Value × Mem} {m : Mem} {pc nx : Nat} {ls : List (Option Value)} {st : List Value} {E : Option α} {x y : Int32} (d : DD cc pc (.ior) 1 nx) (k : JR Z cv m nx ls (.int (x ||| y) :: st) E) : JR Z cv m pc ls (.int y :: .int x :: st) E := by
  obtain ⟨d, rfl⟩ := d
  intro a ha H locs Ls hP hS hl
  exact lv_ior h.1 h.2.1 d (k a ha H locs Ls hP hS hl)
theorem j_ixor {α : Type} {Z : Zx} {cc : ByteArray} {own : String} {nL : Nat} {ret : Option FieldType} {lev : Nat} (h : OkX Z cc own nL ret lev) {cv : α → Option Value × Mem} {m : Mem} {pc nx : Nat} {ls : List (Option Value)} {st : List Value} {E : Option α} {x y : Int32} (d : DD cc pc (.ixor) 1 nx) (k : JR Z cv m nx ls (.int (x ^^^ y) :: st) E) : JR Z cv m pc ls (.int y :: .int x :: st) E := by
  obtain ⟨d, rfl⟩ := d
  intro a ha H locs Ls hP hS hl
  exact lv_ixor h.1 h.2.1 d (k a ha H locs Ls hP hS hl)
theorem j_ishl {α : Type} {Z : Zx} {cc : ByteArray} {own : String} {nL : Nat} {ret : Option FieldType} {lev : Nat} (h : OkX Z cc own nL ret lev) {cv : α → Option Value × Mem} {m : Mem} {pc nx : Nat} {ls : List (Option Value)} {st : List Value} {E : Option α} {x y : Int32} (d : DD cc pc (.ishl) 1 nx) (k : JR Z cv m nx ls (.int (x <<< (y &&& 31)) :: st) E) : JR Z cv m pc ls (.int y :: .int x :: st) E := by
  obtain ⟨d, rfl⟩ := d
  intro a ha H locs Ls hP hS hl
  exact lv_ishl h.1 h.2.1 d (k a ha H locs Ls hP hS hl)
theorem j_ishr {α : Type} {Z : Zx} {cc : ByteArray} {own : String} {nL : Nat} {ret : Option FieldType} {lev : Nat} (h : OkX Z cc own nL ret lev) {cv : α → Option Value × Mem} {m : Mem} {pc nx : Nat} {ls : List (Option Value)} {st : List Value} {E : Option α} {x y : Int32} (d : DD cc pc (.ishr) 1 nx) (k : JR Z cv m nx ls (.int (x >>> (y &&& 31)) :: st) E) : JR Z cv m pc ls (.int y :: .int x :: st) E := by
  obtain ⟨d, rfl⟩ := d
  intro a ha H locs Ls hP hS hl
  exact lv_ishr h.1 h.2.1 d (k a ha H locs Ls hP hS hl)
theorem j_ladd {α : Type} {Z : Zx} {cc : ByteArray} {own : String} {nL : Nat} {ret : Option FieldType} {lev : Nat} (h : OkX Z cc own nL ret lev) {cv : α → Option Value × Mem} {m : Mem} {pc nx : Nat} {ls : List (Option Value)} {st : List Value} {E : Option α} {x y : Int64} (d : DD cc pc (.ladd) 1 nx) (k : JR Z cv m nx ls (.long (x + y) :: st) E) : JR Z cv m pc ls (.long y :: .long x :: st) E := by
  obtain ⟨d, rfl⟩ := d
  intro a ha H locs Ls hP hS hl
  exact lv_ladd h.1 h.2.1 d (k a ha H locs Ls hP hS hl)
theorem j_lsub {α : Type} {Z : Zx} {cc : ByteArray} {own : String} {nL : Nat} {ret : Option FieldType} {lev : Nat} (h : OkX Z cc own nL ret lev) {cv : α → Option Value × Mem} {m : Mem} {pc nx : Nat} {ls : List (Option Value)} {st : List Value} {E : Option α} {x y : Int64} (d : DD cc pc (.lsub) 1 nx) (k : JR Z cv m nx ls (.long (x - y) :: st) E) : JR Z cv m pc ls (.long y :: .long x :: st) E := by
  obtain ⟨d, rfl⟩ := d
  intro a ha H locs Ls hP hS hl
  exact lv_lsub h.1 h.2.1 d (k a ha H locs Ls hP hS hl)
theorem j_lmul {α : Type} {Z : Zx} {cc : ByteArray} {own : String} {nL : Nat} {ret : Option FieldType} {lev : Nat} (h : OkX Z cc own nL ret lev) {cv : α → Option Value × Mem} {m : Mem} {pc nx : Nat} {ls : List (Option Value)} {st : List Value} {E : Option α} {x y : Int64} (d : DD cc pc (.lmul) 1 nx) (k : JR Z cv m nx ls (.long (x * y) :: st) E) : JR Z cv m pc ls (.long y :: .long x :: st) E := by
  obtain ⟨d, rfl⟩ := d
  intro a ha H locs Ls hP hS hl
  exact lv_lmul h.1 h.2.1 d (k a ha H locs Ls hP hS hl)
theorem j_lor {α : Type} {Z : Zx} {cc : ByteArray} {own : String} {nL : Nat} {ret : Option FieldType} {lev : Nat} (h : OkX Z cc own nL ret lev) {cv : α → Option Value × Mem} {m : Mem} {pc nx : Nat} {ls : List (Option Value)} {st : List Value} {E : Option α} {x y : Int64} (d : DD cc pc (.lor) 1 nx) (k : JR Z cv m nx ls (.long (x ||| y) :: st) E) : JR Z cv m pc ls (.long y :: .long x :: st) E := by
  obtain ⟨d, rfl⟩ := d
  intro a ha H locs Ls hP hS hl
  exact lv_lor h.1 h.2.1 d (k a ha H locs Ls hP hS hl)
theorem j_land {α : Type} {Z : Zx} {cc : ByteArray} {own : String} {nL : Nat} {ret : Option FieldType} {lev : Nat} (h : OkX Z cc own nL ret lev) {cv : α → Option Value × Mem} {m : Mem} {pc nx : Nat} {ls : List (Option Value)} {st : List Value} {E : Option α} {x y : Int64} (d : DD cc pc (.land) 1 nx) (k : JR Z cv m nx ls (.long (x &&& y) :: st) E) : JR Z cv m pc ls (.long y :: .long x :: st) E := by
  obtain ⟨d, rfl⟩ := d
  intro a ha H locs Ls hP hS hl
  exact lv_land h.1 h.2.1 d (k a ha H locs Ls hP hS hl)
theorem j_ineg {α : Type} {Z : Zx} {cc : ByteArray} {own : String} {nL : Nat} {ret : Option FieldType} {lev : Nat} (h : OkX Z cc own nL ret lev) {cv : α → Option Value × Mem} {m : Mem} {pc nx : Nat} {ls : List (Option Value)} {st : List Value} {E : Option α} {x : Int32} (d : DD cc pc (.ineg) 1 nx) (k : JR Z cv m nx ls (.int (-x) :: st) E) : JR Z cv m pc ls (.int x :: st) E := by
  obtain ⟨d, rfl⟩ := d
  intro a ha H locs Ls hP hS hl
  exact lv_ineg h.1 h.2.1 d (k a ha H locs Ls hP hS hl)
theorem j_lcmp {α : Type} {Z : Zx} {cc : ByteArray} {own : String} {nL : Nat} {ret : Option FieldType} {lev : Nat} (h : OkX Z cc own nL ret lev) {cv : α → Option Value × Mem} {m : Mem} {pc nx : Nat} {ls : List (Option Value)} {st : List Value} {E : Option α} {x y : Int64} (d : DD cc pc (.lcmp) 1 nx) (k : JR Z cv m nx ls (.int (lg_cmp x y) :: st) E) : JR Z cv m pc ls (.long y :: .long x :: st) E := by
  obtain ⟨d, rfl⟩ := d
  intro a ha H locs Ls hP hS hl
  exact W.lcmp h.1 h.2.1 d (k a ha H locs Ls hP hS hl)
theorem j_i2l {α : Type} {Z : Zx} {cc : ByteArray} {own : String} {nL : Nat} {ret : Option FieldType} {lev : Nat} (h : OkX Z cc own nL ret lev) {cv : α → Option Value × Mem} {m : Mem} {pc nx : Nat} {ls : List (Option Value)} {st : List Value} {E : Option α} {x : Int32} (d : DD cc pc (.i2l) 1 nx) (k : JR Z cv m nx ls (.long x.toInt64 :: st) E) : JR Z cv m pc ls (.int x :: st) E := by
  obtain ⟨d, rfl⟩ := d
  intro a ha H locs Ls hP hS hl
  exact lv_i2l h.1 h.2.1 d rfl (k a ha H locs Ls hP hS hl)
theorem j_l2i {α : Type} {Z : Zx} {cc : ByteArray} {own : String} {nL : Nat} {ret : Option FieldType} {lev : Nat} (h : OkX Z cc own nL ret lev) {cv : α → Option Value × Mem} {m : Mem} {pc nx : Nat} {ls : List (Option Value)} {st : List Value} {E : Option α} {x : Int64} (d : DD cc pc (.l2i) 1 nx) (k : JR Z cv m nx ls (.int x.toInt32 :: st) E) : JR Z cv m pc ls (.long x :: st) E := by
  obtain ⟨d, rfl⟩ := d
  intro a ha H locs Ls hP hS hl
  exact lv_l2i h.1 h.2.1 d rfl (k a ha H locs Ls hP hS hl)
theorem j_i2b {α : Type} {Z : Zx} {cc : ByteArray} {own : String} {nL : Nat} {ret : Option FieldType} {lev : Nat} (h : OkX Z cc own nL ret lev) {cv : α → Option Value × Mem} {m : Mem} {pc nx : Nat} {ls : List (Option Value)} {st : List Value} {E : Option α} {x : Int32} (d : DD cc pc (.i2b) 1 nx) (k : JR Z cv m nx ls (.int x.toInt8.toInt32 :: st) E) : JR Z cv m pc ls (.int x :: st) E := by
  obtain ⟨d, rfl⟩ := d
  intro a ha H locs Ls hP hS hl
  exact lv_i2b h.1 h.2.1 d rfl (k a ha H locs Ls hP hS hl)
theorem j_i2c {α : Type} {Z : Zx} {cc : ByteArray} {own : String} {nL : Nat} {ret : Option FieldType} {lev : Nat} (h : OkX Z cc own nL ret lev) {cv : α → Option Value × Mem} {m : Mem} {pc nx : Nat} {ls : List (Option Value)} {st : List Value} {E : Option α} {x : Int32} (d : DD cc pc (.i2c) 1 nx) (k : JR Z cv m nx ls (.int (x.toUInt32 % 65536).toInt32 :: st) E) : JR Z cv m pc ls (.int x :: st) E := by
  obtain ⟨d, rfl⟩ := d
  intro a ha H locs Ls hP hS hl
  exact lv_i2c h.1 h.2.1 d rfl (k a ha H locs Ls hP hS hl)
theorem j_iushr {α : Type} {Z : Zx} {cc : ByteArray} {own : String} {nL : Nat} {ret : Option FieldType} {lev : Nat} (h : OkX Z cc own nL ret lev) {cv : α → Option Value × Mem} {m : Mem} {pc nx : Nat} {ls : List (Option Value)} {st : List Value} {E : Option α} {x y : Int32} (d : DD cc pc (.iushr) 1 nx) (k : JR Z cv m nx ls (.int (x.toUInt32 >>> (y.toUInt32 &&& Int32.toUInt32 31)).toInt32 :: st) E) : JR Z cv m pc ls (.int y :: .int x :: st) E := by
  obtain ⟨d, rfl⟩ := d
  intro a ha H locs Ls hP hS hl
  exact lv_iushr h.1 h.2.1 d rfl (k a ha H locs Ls hP hS hl)
theorem j_lshl {α : Type} {Z : Zx} {cc : ByteArray} {own : String} {nL : Nat} {ret : Option FieldType} {lev : Nat} (h : OkX Z cc own nL ret lev) {cv : α → Option Value × Mem} {m : Mem} {pc nx : Nat} {ls : List (Option Value)} {st : List Value} {E : Option α} {x : Int64} {y : Int32} (d : DD cc pc (.lshl) 1 nx) (k : JR Z cv m nx ls (.long (x <<< (y.toInt64 &&& 63)) :: st) E) : JR Z cv m pc ls (.int y :: .long x :: st) E := by
  obtain ⟨d, rfl⟩ := d
  intro a ha H locs Ls hP hS hl
  exact lv_lshl h.1 h.2.1 d rfl (k a ha H locs Ls hP hS hl)
theorem j_dup {α : Type} {Z : Zx} {cc : ByteArray} {own : String} {nL : Nat} {ret : Option FieldType} {lev : Nat} (h : OkX Z cc own nL ret lev) {cv : α → Option Value × Mem} {m : Mem} {pc nx : Nat} {ls : List (Option Value)} {st : List Value} {E : Option α} {v : Value} (d : DD cc pc (.dup) 1 nx) (hv : v.category = 1) (k : JR Z cv m nx ls (v :: v :: st) E) : JR Z cv m pc ls (v :: st) E := by
  obtain ⟨d, rfl⟩ := d
  intro a ha H locs Ls hP hS hl
  exact lv_dup h.1 h.2.1 d hv (k a ha H locs Ls hP hS hl)
theorem j_pop {α : Type} {Z : Zx} {cc : ByteArray} {own : String} {nL : Nat} {ret : Option FieldType} {lev : Nat} (h : OkX Z cc own nL ret lev) {cv : α → Option Value × Mem} {m : Mem} {pc nx : Nat} {ls : List (Option Value)} {st : List Value} {E : Option α} {v : Value} (d : DD cc pc (.pop) 1 nx) (hv : v.category = 1) (k : JR Z cv m nx ls (st) E) : JR Z cv m pc ls (v :: st) E := by
  obtain ⟨d, rfl⟩ := d
  intro a ha H locs Ls hP hS hl
  exact lv_pop h.1 h.2.1 d hv (k a ha H locs Ls hP hS hl)
theorem j_dup2 {α : Type} {Z : Zx} {cc : ByteArray} {own : String} {nL : Nat} {ret : Option FieldType} {lev : Nat} (h : OkX Z cc own nL ret lev) {cv : α → Option Value × Mem} {m : Mem} {pc nx : Nat} {ls : List (Option Value)} {st : List Value} {E : Option α} {v w : Value} (d : DD cc pc (.dup2) 1 nx) (hv : v.category = 1) (hw : w.category = 1) (k : JR Z cv m nx ls (v :: w :: v :: w :: st) E) : JR Z cv m pc ls (v :: w :: st) E := by
  obtain ⟨d, rfl⟩ := d
  intro a ha H locs Ls hP hS hl
  exact lv_dup2_11 h.1 h.2.1 d hv hw (k a ha H locs Ls hP hS hl)
theorem j_dupx1 {α : Type} {Z : Zx} {cc : ByteArray} {own : String} {nL : Nat} {ret : Option FieldType} {lev : Nat} (h : OkX Z cc own nL ret lev) {cv : α → Option Value × Mem} {m : Mem} {pc nx : Nat} {ls : List (Option Value)} {st : List Value} {E : Option α} {v w : Value} (d : DD cc pc (.dup_x1) 1 nx) (hv : v.category = 1) (hw : w.category = 1) (k : JR Z cv m nx ls (v :: w :: v :: st) E) : JR Z cv m pc ls (v :: w :: st) E := by
  obtain ⟨d, rfl⟩ := d
  intro a ha H locs Ls hP hS hl
  exact lv_dup_x1 h.1 h.2.1 d hv hw (k a ha H locs Ls hP hS hl)
theorem j_dupx2 {α : Type} {Z : Zx} {cc : ByteArray} {own : String} {nL : Nat} {ret : Option FieldType} {lev : Nat} (h : OkX Z cc own nL ret lev) {cv : α → Option Value × Mem} {m : Mem} {pc nx : Nat} {ls : List (Option Value)} {st : List Value} {E : Option α} {v w z : Value} (d : DD cc pc (.dup_x2) 1 nx) (hv : v.category = 1) (hw : w.category = 1) (hz : z.category = 1) (k : JR Z cv m nx ls (v :: w :: z :: v :: st) E) : JR Z cv m pc ls (v :: w :: z :: st) E := by
  obtain ⟨d, rfl⟩ := d
  intro a ha H locs Ls hP hS hl
  exact lv_dup_x2 h.1 h.2.1 d hv hw hz (k a ha H locs Ls hP hS hl)
theorem j_icmp_eqB {α : Type} {Z : Zx} {cc : ByteArray} {own : String} {nL : Nat} {ret : Option FieldType} {lev : Nat} (h : OkX Z cc own nL ret lev) {cv : α → Option Value × Mem} {m : Mem} {pc nx : Nat} {ls : List (Option Value)} {st : List Value} {E : Option α} {x y : Int32} {off : Int} {tgt : Nat} (d : DD cc pc (.if_icmp .eq off) 3 nx) (ht : (pc : Int) + off = (tgt : Int)) (kt : x = y → JR Z cv m tgt ls st E) (kf : ¬ (x = y) → JR Z cv m nx ls st E) : JR Z cv m pc ls (.int y :: .int x :: st) E := by
  obtain ⟨d, rfl⟩ := d
  intro a ha H locs Ls hP hS hl
  exact lv_icmp_eq h.1 h.2.1 d ht (fun c => kt c a ha H locs Ls hP hS hl) (fun c => kf (by simpa using c) a ha H locs Ls hP hS hl)
theorem j_icmp_eq {α : Type} {Z : Zx} {cc : ByteArray} {own : String} {nL : Nat} {ret : Option FieldType} {lev : Nat} (h : OkX Z cc own nL ret lev) {cv : α → Option Value × Mem} {m : Mem} {pc nx : Nat} {ls : List (Option Value)} {st : List Value} {E1 E2 : Option α} {x y : Int32} {off : Int} {tgt : Nat} (d : DD cc pc (.if_icmp .eq off) 3 nx) (ht : (pc : Int) + off = (tgt : Int)) (kt : x = y → JR Z cv m tgt ls st E1) (kf : ¬ (x = y) → JR Z cv m nx ls st E2) : JR Z cv m pc ls (.int y :: .int x :: st) (if x = y then E1 else E2) :=
  j_icmp_eqB h d ht (fun c => by rw [if_pos c]; exact kt c) (fun c => by rw [if_neg c]; exact kf c)
theorem j_icmp_neB {α : Type} {Z : Zx} {cc : ByteArray} {own : String} {nL : Nat} {ret : Option FieldType} {lev : Nat} (h : OkX Z cc own nL ret lev) {cv : α → Option Value × Mem} {m : Mem} {pc nx : Nat} {ls : List (Option Value)} {st : List Value} {E : Option α} {x y : Int32} {off : Int} {tgt : Nat} (d : DD cc pc (.if_icmp .ne off) 3 nx) (ht : (pc : Int) + off = (tgt : Int)) (kt : ¬ x = y → JR Z cv m tgt ls st E) (kf : ¬ (¬ x = y) → JR Z cv m nx ls st E) : JR Z cv m pc ls (.int y :: .int x :: st) E := by
  obtain ⟨d, rfl⟩ := d
  intro a ha H locs Ls hP hS hl
  exact lv_icmp_ne h.1 h.2.1 d ht (fun c => kt c a ha H locs Ls hP hS hl) (fun c => kf (fun q => q c) a ha H locs Ls hP hS hl)
theorem j_icmp_ne {α : Type} {Z : Zx} {cc : ByteArray} {own : String} {nL : Nat} {ret : Option FieldType} {lev : Nat} (h : OkX Z cc own nL ret lev) {cv : α → Option Value × Mem} {m : Mem} {pc nx : Nat} {ls : List (Option Value)} {st : List Value} {E1 E2 : Option α} {x y : Int32} {off : Int} {tgt : Nat} (d : DD cc pc (.if_icmp .ne off) 3 nx) (ht : (pc : Int) + off = (tgt : Int)) (kt : ¬ x = y → JR Z cv m tgt ls st E2) (kf : x = y → JR Z cv m nx ls st E1) : JR Z cv m pc ls (.int y :: .int x :: st) (if x = y then E1 else E2) :=
  j_icmp_neB h d ht (fun c => by rw [if_neg c]; exact kt c) (fun c => by rw [if_pos (Classical.not_not.mp c)]; exact kf (Classical.not_not.mp c))
theorem j_icmp_ltB {α : Type} {Z : Zx} {cc : ByteArray} {own : String} {nL : Nat} {ret : Option FieldType} {lev : Nat} (h : OkX Z cc own nL ret lev) {cv : α → Option Value × Mem} {m : Mem} {pc nx : Nat} {ls : List (Option Value)} {st : List Value} {E : Option α} {x y : Int32} {off : Int} {tgt : Nat} (d : DD cc pc (.if_icmp .lt off) 3 nx) (ht : (pc : Int) + off = (tgt : Int)) (kt : x < y → JR Z cv m tgt ls st E) (kf : ¬ (x < y) → JR Z cv m nx ls st E) : JR Z cv m pc ls (.int y :: .int x :: st) E := by
  obtain ⟨d, rfl⟩ := d
  intro a ha H locs Ls hP hS hl
  exact lv_icmp_lt h.1 h.2.1 d ht (fun c => kt c a ha H locs Ls hP hS hl) (fun c => kf (by simpa using c) a ha H locs Ls hP hS hl)
theorem j_icmp_lt {α : Type} {Z : Zx} {cc : ByteArray} {own : String} {nL : Nat} {ret : Option FieldType} {lev : Nat} (h : OkX Z cc own nL ret lev) {cv : α → Option Value × Mem} {m : Mem} {pc nx : Nat} {ls : List (Option Value)} {st : List Value} {E1 E2 : Option α} {x y : Int32} {off : Int} {tgt : Nat} (d : DD cc pc (.if_icmp .lt off) 3 nx) (ht : (pc : Int) + off = (tgt : Int)) (kt : x < y → JR Z cv m tgt ls st E1) (kf : ¬ (x < y) → JR Z cv m nx ls st E2) : JR Z cv m pc ls (.int y :: .int x :: st) (if x < y then E1 else E2) :=
  j_icmp_ltB h d ht (fun c => by rw [if_pos c]; exact kt c) (fun c => by rw [if_neg c]; exact kf c)
theorem j_icmp_geB {α : Type} {Z : Zx} {cc : ByteArray} {own : String} {nL : Nat} {ret : Option FieldType} {lev : Nat} (h : OkX Z cc own nL ret lev) {cv : α → Option Value × Mem} {m : Mem} {pc nx : Nat} {ls : List (Option Value)} {st : List Value} {E : Option α} {x y : Int32} {off : Int} {tgt : Nat} (d : DD cc pc (.if_icmp .ge off) 3 nx) (ht : (pc : Int) + off = (tgt : Int)) (kt : y ≤ x → JR Z cv m tgt ls st E) (kf : ¬ (y ≤ x) → JR Z cv m nx ls st E) : JR Z cv m pc ls (.int y :: .int x :: st) E := by
  obtain ⟨d, rfl⟩ := d
  intro a ha H locs Ls hP hS hl
  exact lv_icmp_ge h.1 h.2.1 d ht (fun c => kt c a ha H locs Ls hP hS hl) (fun c => kf (by simpa using c) a ha H locs Ls hP hS hl)
theorem j_icmp_ge {α : Type} {Z : Zx} {cc : ByteArray} {own : String} {nL : Nat} {ret : Option FieldType} {lev : Nat} (h : OkX Z cc own nL ret lev) {cv : α → Option Value × Mem} {m : Mem} {pc nx : Nat} {ls : List (Option Value)} {st : List Value} {E1 E2 : Option α} {x y : Int32} {off : Int} {tgt : Nat} (d : DD cc pc (.if_icmp .ge off) 3 nx) (ht : (pc : Int) + off = (tgt : Int)) (kt : y ≤ x → JR Z cv m tgt ls st E1) (kf : ¬ (y ≤ x) → JR Z cv m nx ls st E2) : JR Z cv m pc ls (.int y :: .int x :: st) (if y ≤ x then E1 else E2) :=
  j_icmp_geB h d ht (fun c => by rw [if_pos c]; exact kt c) (fun c => by rw [if_neg c]; exact kf c)
theorem j_icmp_gtB {α : Type} {Z : Zx} {cc : ByteArray} {own : String} {nL : Nat} {ret : Option FieldType} {lev : Nat} (h : OkX Z cc own nL ret lev) {cv : α → Option Value × Mem} {m : Mem} {pc nx : Nat} {ls : List (Option Value)} {st : List Value} {E : Option α} {x y : Int32} {off : Int} {tgt : Nat} (d : DD cc pc (.if_icmp .gt off) 3 nx) (ht : (pc : Int) + off = (tgt : Int)) (kt : y < x → JR Z cv m tgt ls st E) (kf : ¬ (y < x) → JR Z cv m nx ls st E) : JR Z cv m pc ls (.int y :: .int x :: st) E := by
  obtain ⟨d, rfl⟩ := d
  intro a ha H locs Ls hP hS hl
  exact lv_icmp_gt h.1 h.2.1 d ht (fun c => kt c a ha H locs Ls hP hS hl) (fun c => kf (by simpa using c) a ha H locs Ls hP hS hl)
theorem j_icmp_gt {α : Type} {Z : Zx} {cc : ByteArray} {own : String} {nL : Nat} {ret : Option FieldType} {lev : Nat} (h : OkX Z cc own nL ret lev) {cv : α → Option Value × Mem} {m : Mem} {pc nx : Nat} {ls : List (Option Value)} {st : List Value} {E1 E2 : Option α} {x y : Int32} {off : Int} {tgt : Nat} (d : DD cc pc (.if_icmp .gt off) 3 nx) (ht : (pc : Int) + off = (tgt : Int)) (kt : y < x → JR Z cv m tgt ls st E1) (kf : ¬ (y < x) → JR Z cv m nx ls st E2) : JR Z cv m pc ls (.int y :: .int x :: st) (if y < x then E1 else E2) :=
  j_icmp_gtB h d ht (fun c => by rw [if_pos c]; exact kt c) (fun c => by rw [if_neg c]; exact kf c)
theorem j_icmp_leB {α : Type} {Z : Zx} {cc : ByteArray} {own : String} {nL : Nat} {ret : Option FieldType} {lev : Nat} (h : OkX Z cc own nL ret lev) {cv : α → Option Value × Mem} {m : Mem} {pc nx : Nat} {ls : List (Option Value)} {st : List Value} {E : Option α} {x y : Int32} {off : Int} {tgt : Nat} (d : DD cc pc (.if_icmp .le off) 3 nx) (ht : (pc : Int) + off = (tgt : Int)) (kt : x ≤ y → JR Z cv m tgt ls st E) (kf : ¬ (x ≤ y) → JR Z cv m nx ls st E) : JR Z cv m pc ls (.int y :: .int x :: st) E := by
  obtain ⟨d, rfl⟩ := d
  intro a ha H locs Ls hP hS hl
  exact lv_icmp_le h.1 h.2.1 d ht (fun c => kt c a ha H locs Ls hP hS hl) (fun c => kf (by simpa using c) a ha H locs Ls hP hS hl)
theorem j_icmp_le {α : Type} {Z : Zx} {cc : ByteArray} {own : String} {nL : Nat} {ret : Option FieldType} {lev : Nat} (h : OkX Z cc own nL ret lev) {cv : α → Option Value × Mem} {m : Mem} {pc nx : Nat} {ls : List (Option Value)} {st : List Value} {E1 E2 : Option α} {x y : Int32} {off : Int} {tgt : Nat} (d : DD cc pc (.if_icmp .le off) 3 nx) (ht : (pc : Int) + off = (tgt : Int)) (kt : x ≤ y → JR Z cv m tgt ls st E1) (kf : ¬ (x ≤ y) → JR Z cv m nx ls st E2) : JR Z cv m pc ls (.int y :: .int x :: st) (if x ≤ y then E1 else E2) :=
  j_icmp_leB h d ht (fun c => by rw [if_pos c]; exact kt c) (fun c => by rw [if_neg c]; exact kf c)
theorem j_if_eqB {α : Type} {Z : Zx} {cc : ByteArray} {own : String} {nL : Nat} {ret : Option FieldType} {lev : Nat} (h : OkX Z cc own nL ret lev) {cv : α → Option Value × Mem} {m : Mem} {pc nx : Nat} {ls : List (Option Value)} {st : List Value} {E : Option α} {x : Int32} {off : Int} {tgt : Nat} (d : DD cc pc (.ifCond .eq off) 3 nx) (ht : (pc : Int) + off = (tgt : Int)) (kt : x = 0 → JR Z cv m tgt ls st E) (kf : ¬ (x = 0) → JR Z cv m nx ls st E) : JR Z cv m pc ls (.int x :: st) E := by
  obtain ⟨d, rfl⟩ := d
  intro a ha H locs Ls hP hS hl
  exact lv_if_eq h.1 h.2.1 d ht (fun c => kt c a ha H locs Ls hP hS hl) (fun c => kf (by simpa using c) a ha H locs Ls hP hS hl)
theorem j_if_eq {α : Type} {Z : Zx} {cc : ByteArray} {own : String} {nL : Nat} {ret : Option FieldType} {lev : Nat} (h : OkX Z cc own nL ret lev) {cv : α → Option Value × Mem} {m : Mem} {pc nx : Nat} {ls : List (Option Value)} {st : List Value} {E1 E2 : Option α} {x : Int32} {off : Int} {tgt : Nat} (d : DD cc pc (.ifCond .eq off) 3 nx) (ht : (pc : Int) + off = (tgt : Int)) (kt : x = 0 → JR Z cv m tgt ls st E1) (kf : ¬ (x = 0) → JR Z cv m nx ls st E2) : JR Z cv m pc ls (.int x :: st) (if x = 0 then E1 else E2) :=
  j_if_eqB h d ht (fun c => by rw [if_pos c]; exact kt c) (fun c => by rw [if_neg c]; exact kf c)
theorem j_if_neB {α : Type} {Z : Zx} {cc : ByteArray} {own : String} {nL : Nat} {ret : Option FieldType} {lev : Nat} (h : OkX Z cc own nL ret lev) {cv : α → Option Value × Mem} {m : Mem} {pc nx : Nat} {ls : List (Option Value)} {st : List Value} {E : Option α} {x : Int32} {off : Int} {tgt : Nat} (d : DD cc pc (.ifCond .ne off) 3 nx) (ht : (pc : Int) + off = (tgt : Int)) (kt : ¬ x = 0 → JR Z cv m tgt ls st E) (kf : ¬ (¬ x = 0) → JR Z cv m nx ls st E) : JR Z cv m pc ls (.int x :: st) E := by
  obtain ⟨d, rfl⟩ := d
  intro a ha H locs Ls hP hS hl
  exact lv_if_ne h.1 h.2.1 d ht (fun c => kt c a ha H locs Ls hP hS hl) (fun c => kf (fun q => q c) a ha H locs Ls hP hS hl)
theorem j_if_ne {α : Type} {Z : Zx} {cc : ByteArray} {own : String} {nL : Nat} {ret : Option FieldType} {lev : Nat} (h : OkX Z cc own nL ret lev) {cv : α → Option Value × Mem} {m : Mem} {pc nx : Nat} {ls : List (Option Value)} {st : List Value} {E1 E2 : Option α} {x : Int32} {off : Int} {tgt : Nat} (d : DD cc pc (.ifCond .ne off) 3 nx) (ht : (pc : Int) + off = (tgt : Int)) (kt : ¬ x = 0 → JR Z cv m tgt ls st E2) (kf : x = 0 → JR Z cv m nx ls st E1) : JR Z cv m pc ls (.int x :: st) (if x = 0 then E1 else E2) :=
  j_if_neB h d ht (fun c => by rw [if_neg c]; exact kt c) (fun c => by rw [if_pos (Classical.not_not.mp c)]; exact kf (Classical.not_not.mp c))
theorem j_if_ltB {α : Type} {Z : Zx} {cc : ByteArray} {own : String} {nL : Nat} {ret : Option FieldType} {lev : Nat} (h : OkX Z cc own nL ret lev) {cv : α → Option Value × Mem} {m : Mem} {pc nx : Nat} {ls : List (Option Value)} {st : List Value} {E : Option α} {x : Int32} {off : Int} {tgt : Nat} (d : DD cc pc (.ifCond .lt off) 3 nx) (ht : (pc : Int) + off = (tgt : Int)) (kt : x < 0 → JR Z cv m tgt ls st E) (kf : ¬ (x < 0) → JR Z cv m nx ls st E) : JR Z cv m pc ls (.int x :: st) E := by
  obtain ⟨d, rfl⟩ := d
  intro a ha H locs Ls hP hS hl
  exact lv_if_lt h.1 h.2.1 d ht (fun c => kt c a ha H locs Ls hP hS hl) (fun c => kf (by simpa using c) a ha H locs Ls hP hS hl)
theorem j_if_lt {α : Type} {Z : Zx} {cc : ByteArray} {own : String} {nL : Nat} {ret : Option FieldType} {lev : Nat} (h : OkX Z cc own nL ret lev) {cv : α → Option Value × Mem} {m : Mem} {pc nx : Nat} {ls : List (Option Value)} {st : List Value} {E1 E2 : Option α} {x : Int32} {off : Int} {tgt : Nat} (d : DD cc pc (.ifCond .lt off) 3 nx) (ht : (pc : Int) + off = (tgt : Int)) (kt : x < 0 → JR Z cv m tgt ls st E1) (kf : ¬ (x < 0) → JR Z cv m nx ls st E2) : JR Z cv m pc ls (.int x :: st) (if x < 0 then E1 else E2) :=
  j_if_ltB h d ht (fun c => by rw [if_pos c]; exact kt c) (fun c => by rw [if_neg c]; exact kf c)
theorem j_if_geB {α : Type} {Z : Zx} {cc : ByteArray} {own : String} {nL : Nat} {ret : Option FieldType} {lev : Nat} (h : OkX Z cc own nL ret lev) {cv : α → Option Value × Mem} {m : Mem} {pc nx : Nat} {ls : List (Option Value)} {st : List Value} {E : Option α} {x : Int32} {off : Int} {tgt : Nat} (d : DD cc pc (.ifCond .ge off) 3 nx) (ht : (pc : Int) + off = (tgt : Int)) (kt : 0 ≤ x → JR Z cv m tgt ls st E) (kf : ¬ (0 ≤ x) → JR Z cv m nx ls st E) : JR Z cv m pc ls (.int x :: st) E := by
  obtain ⟨d, rfl⟩ := d
  intro a ha H locs Ls hP hS hl
  exact lv_if_ge h.1 h.2.1 d ht (fun c => kt c a ha H locs Ls hP hS hl) (fun c => kf (by simpa using c) a ha H locs Ls hP hS hl)
theorem j_if_ge {α : Type} {Z : Zx} {cc : ByteArray} {own : String} {nL : Nat} {ret : Option FieldType} {lev : Nat} (h : OkX Z cc own nL ret lev) {cv : α → Option Value × Mem} {m : Mem} {pc nx : Nat} {ls : List (Option Value)} {st : List Value} {E1 E2 : Option α} {x : Int32} {off : Int} {tgt : Nat} (d : DD cc pc (.ifCond .ge off) 3 nx) (ht : (pc : Int) + off = (tgt : Int)) (kt : 0 ≤ x → JR Z cv m tgt ls st E1) (kf : ¬ (0 ≤ x) → JR Z cv m nx ls st E2) : JR Z cv m pc ls (.int x :: st) (if 0 ≤ x then E1 else E2) :=
  j_if_geB h d ht (fun c => by rw [if_pos c]; exact kt c) (fun c => by rw [if_neg c]; exact kf c)
theorem j_if_gtB {α : Type} {Z : Zx} {cc : ByteArray} {own : String} {nL : Nat} {ret : Option FieldType} {lev : Nat} (h : OkX Z cc own nL ret lev) {cv : α → Option Value × Mem} {m : Mem} {pc nx : Nat} {ls : List (Option Value)} {st : List Value} {E : Option α} {x : Int32} {off : Int} {tgt : Nat} (d : DD cc pc (.ifCond .gt off) 3 nx) (ht : (pc : Int) + off = (tgt : Int)) (kt : 0 < x → JR Z cv m tgt ls st E) (kf : ¬ (0 < x) → JR Z cv m nx ls st E) : JR Z cv m pc ls (.int x :: st) E := by
  obtain ⟨d, rfl⟩ := d
  intro a ha H locs Ls hP hS hl
  exact lv_if_gt h.1 h.2.1 d ht (fun c => kt c a ha H locs Ls hP hS hl) (fun c => kf (by simpa using c) a ha H locs Ls hP hS hl)
theorem j_if_gt {α : Type} {Z : Zx} {cc : ByteArray} {own : String} {nL : Nat} {ret : Option FieldType} {lev : Nat} (h : OkX Z cc own nL ret lev) {cv : α → Option Value × Mem} {m : Mem} {pc nx : Nat} {ls : List (Option Value)} {st : List Value} {E1 E2 : Option α} {x : Int32} {off : Int} {tgt : Nat} (d : DD cc pc (.ifCond .gt off) 3 nx) (ht : (pc : Int) + off = (tgt : Int)) (kt : 0 < x → JR Z cv m tgt ls st E1) (kf : ¬ (0 < x) → JR Z cv m nx ls st E2) : JR Z cv m pc ls (.int x :: st) (if 0 < x then E1 else E2) :=
  j_if_gtB h d ht (fun c => by rw [if_pos c]; exact kt c) (fun c => by rw [if_neg c]; exact kf c)
theorem j_if_leB {α : Type} {Z : Zx} {cc : ByteArray} {own : String} {nL : Nat} {ret : Option FieldType} {lev : Nat} (h : OkX Z cc own nL ret lev) {cv : α → Option Value × Mem} {m : Mem} {pc nx : Nat} {ls : List (Option Value)} {st : List Value} {E : Option α} {x : Int32} {off : Int} {tgt : Nat} (d : DD cc pc (.ifCond .le off) 3 nx) (ht : (pc : Int) + off = (tgt : Int)) (kt : x ≤ 0 → JR Z cv m tgt ls st E) (kf : ¬ (x ≤ 0) → JR Z cv m nx ls st E) : JR Z cv m pc ls (.int x :: st) E := by
  obtain ⟨d, rfl⟩ := d
  intro a ha H locs Ls hP hS hl
  exact lv_if_le h.1 h.2.1 d ht (fun c => kt c a ha H locs Ls hP hS hl) (fun c => kf (by simpa using c) a ha H locs Ls hP hS hl)
theorem j_if_le {α : Type} {Z : Zx} {cc : ByteArray} {own : String} {nL : Nat} {ret : Option FieldType} {lev : Nat} (h : OkX Z cc own nL ret lev) {cv : α → Option Value × Mem} {m : Mem} {pc nx : Nat} {ls : List (Option Value)} {st : List Value} {E1 E2 : Option α} {x : Int32} {off : Int} {tgt : Nat} (d : DD cc pc (.ifCond .le off) 3 nx) (ht : (pc : Int) + off = (tgt : Int)) (kt : x ≤ 0 → JR Z cv m tgt ls st E1) (kf : ¬ (x ≤ 0) → JR Z cv m nx ls st E2) : JR Z cv m pc ls (.int x :: st) (if x ≤ 0 then E1 else E2) :=
  j_if_leB h d ht (fun c => by rw [if_pos c]; exact kt c) (fun c => by rw [if_neg c]; exact kf c)
theorem j_goto {α : Type} {Z : Zx} {cc : ByteArray} {own : String} {nL : Nat} {ret : Option FieldType} {lev : Nat} (h : OkX Z cc own nL ret lev) {cv : α → Option Value × Mem} {m : Mem} {pc nx : Nat} {ls : List (Option Value)} {st : List Value} {E : Option α} {off : Int} {tgt : Nat} (d : DD cc pc (.goto off) 3 nx) (ht : (pc : Int) + off = (tgt : Int)) (k : JR Z cv m tgt ls st E) : JR Z cv m pc ls st E := by
  obtain ⟨d, rfl⟩ := d
  intro a ha H locs Ls hP hS hl
  exact lv_goto h.1 h.2.1 d ht (k a ha H locs Ls hP hS hl)
end
section
/-! ===== rules: division, names, fields, rows, calls, ends ===== -/
/-- a new memory, named -/
def pt {β : Type} (m : Mem) (K : Mem → Option β) : Option β := K m
/-- a number, named -/
def nm {β : Type} (x : Int32) (K : Int32 → Option β) : Option β := K x
def nmL {β : Type} (x : Int64) (K : Int64 → Option β) : Option β := K x
/-- a row is read, written: nothing comes of a wrong index -/
def rd {β : Type} (f : Nat → Int32) (n : Nat) (i : Int32) (K : Int32 → Option β) : Option β := if ¬ (i < 0 ∨ n ≤ i.toNatClampNeg) then K (f i.toNatClampNeg) else none
def rdL {β : Type} (f : Nat → Int64) (n : Nat) (i : Int32) (K : Int64 → Option β) : Option β := if ¬ (i < 0 ∨ n ≤ i.toNatClampNeg) then K (f i.toNatClampNeg) else none
def wr {β : Type} (m : Mem) (q n : Nat) (i x : Int32) (K : Mem → Option β) : Option β := if ¬ (i < 0 ∨ n ≤ i.toNatClampNeg) then K (sI m q i.toNatClampNeg x) else none
def wrL {β : Type} (m : Mem) (q n : Nat) (i : Int32) (x : Int64) (K : Mem → Option β) : Option β := if ¬ (i < 0 ∨ n ≤ i.toNatClampNeg) then K (sL m q i.toNatClampNeg x) else none
/-- a divisor is looked at -/
def dv {β : Type} (y : Int32) (E : Option β) : Option β := if y = 0 then none else E
/-- a truth value is looked at -/
def tz {β : Type} (v : Int32) (E : Option β) : Option β := if narrow .boolean (.int v) = .int v then E else none
/-- answers: an int and no change; an int and a memory; a memory; a long and no change; a place and a memory -/
def cvP (m : Mem) (r : Int32) : Option Value × Mem := (some (.int r), m)
def cvI (q : Int32 × Mem) : Option Value × Mem := (some (.int q.1), q.2)
def cvV (m : Mem) : Option Value × Mem := (none, m)
def cvL (m : Mem) (r : Int64) : Option Value × Mem := (some (.long r), m)
def cvR (G : Gt) (q : Nat × Mem) : Option Value × Mem := (some (.ref (G.2.2 q.1)), q.2)
section R2
variable {α : Type} {Z : Zx} {cc : ByteArray} {own : String} {nL : Nat} {ret : Option FieldType} {lev : Nat} {cv : α → Option Value × Mem} {m : Mem} {pc nx : Nat} {ls : List (Option Value)} {st : List Value} {E : Option α}
theorem j_idivB (h : OkX Z cc own nL ret lev) {x y : Int32} (d : DD cc pc .idiv 1 nx) (hne : ¬ y = 0) (k : JR Z cv m nx ls (.int (x / y) :: st) E) : JR Z cv m pc ls (.int y :: .int x :: st) E := by
  obtain ⟨d, rfl⟩ := d
  intro a ha H locs Ls hP hS hl
  exact lv_idiv h.1 h.2.1 d hne (k a ha H locs Ls hP hS hl)
theorem j_iremB (h : OkX Z cc own nL ret lev) {x y : Int32} (d : DD cc pc .irem 1 nx) (hne : ¬ y = 0) (k : JR Z cv m nx ls (.int (x - x / y * y) :: st) E) : JR Z cv m pc ls (.int y :: .int x :: st) E := by
  obtain ⟨d, rfl⟩ := d
  intro a ha H locs Ls hP hS hl
  exact lv_irem h.1 h.2.1 d hne (k a ha H locs Ls hP hS hl)
theorem j_idiv (h : OkX Z cc own nL ret lev) {x y : Int32} (d : DD cc pc .idiv 1 nx) (k : JR Z cv m nx ls (.int (x / y) :: st) E) : JR Z cv m pc ls (.int y :: .int x :: st) (dv y E) := by
  intro a ha
  by_cases c : y = 0
  · rw [dv, if_pos c] at ha
    cases ha
  · rw [dv, if_neg c] at ha
    exact j_idivB h d c k a ha
theorem j_irem (h : OkX Z cc own nL ret lev) {x y : Int32} (d : DD cc pc .irem 1 nx) (k : JR Z cv m nx ls (.int (x - x / y * y) :: st) E) : JR Z cv m pc ls (.int y :: .int x :: st) (dv y E) := by
  intro a ha
  by_cases c : y = 0
  · rw [dv, if_pos c] at ha
    cases ha
  · rw [dv, if_neg c] at ha
    exact j_iremB h d c k a ha
theorem j_nm {x : Int32} {K : Int32 → Option α} (k : ∀ y, y = x → JR Z cv m pc ls (.int y :: st) (K y)) : JR Z cv m pc ls (.int x :: st) (nm x K) := k x rfl
theorem j_nmL {x : Int64} {K : Int64 → Option α} (k : ∀ y, y = x → JR Z cv m pc ls (.long y :: st) (K y)) : JR Z cv m pc ls (.long x :: st) (nmL x K) := k x rfl
theorem j_wk {ls' : List (Option Value)} (hw : lwk ls' ls) (k : JR Z cv m pc ls' st E) : JR Z cv m pc ls st E := fun a ha H locs Ls hP hS hl => k a ha H locs Ls hP hS (lO_wk hw hl)
theorem j_none : JR Z cv m pc ls st none := fun a ha => by cases ha
theorem j_get (h : OkX Z cc own nL ret lev) {C : String} {T : u_T} {N ci idx k a q0 : Nat} {fs : List Value} {v : Value} (hin : ∀ w ∈ u_ws C T N, w ∈ WT) (hc : jcl[ci]? = some (C, T, N)) (he : (Z.2.2.1 Z.2.1 m)[q0]? = some (a, .inr (ci, fs))) (hk : k < N) (hlink : Cond.fieldLink own idx C (T k).2.1 (T k).2.2.1 ∈ WT) (hT : (T k).1 = C) (hv : fs[k]? = some v) (d : DD cc pc (.getfield idx) 3 nx) (kk : JR Z cv m nx ls (v :: st) E) : JR Z cv m pc ls (.ref a :: st) E := by
  obtain ⟨d, rfl⟩ := d
  intro a' ha H locs Ls hP hS hl
  exact va_get h.1 h.2.1 h.2.2.2.2.2.1 hin h.2.2.2.2.1 h.2.2.2.2.2.2.1 hP q0 he hc k hk (h.2.2.2.2.2.1 _ hlink) (fun x hx => by rw [hT] at hx; exact hx) hv d (kk a' ha H locs Ls hP hS hl)
theorem j_getN (h : OkX Z cc own nL ret lev) {C host : String} {T : u_T} {N ci idx k a q0 : Nat} {fs : List Value} {v : Value} (hin : ∀ w ∈ u_ws C T N, w ∈ WT) (hc : jcl[ci]? = some (C, T, N)) (he : (Z.2.2.1 Z.2.1 m)[q0]? = some (a, .inr (ci, fs))) (hk : k < N) (hlink : Cond.fieldLinkNest own idx C (T k).2.1 (T k).2.2.1 host ∈ nestW) (hT : (T k).1 = C) (hv : fs[k]? = some v) (d : DD cc pc (.getfield idx) 3 nx) (kk : JR Z cv m nx ls (v :: st) E) : JR Z cv m pc ls (.ref a :: st) E := by
  obtain ⟨d, rfl⟩ := d
  intro a' ha H locs Ls hP hS hl
  exact va_getN h.1 h.2.1 h.2.2.2.2.2.1 hin h.2.2.2.2.1 h.2.2.2.2.2.2.1 hP q0 he hc k hk (va_Nw.use rfl (h.2.2.2.2.2.2.2.1 _ hlink)) (fun x hx => by rw [hT] at hx; exact hx) hv d (kk a' ha H locs Ls hP hS hl)
theorem j_put (h : OkX Z cc own nL ret lev) {C : String} {T : u_T} {N ci idx k a q0 : Nat} {fs : List Value} {v : Value} {ty : FieldType} {ty0 : Nat → FieldType} {m' : Mem} {K : Mem → Option α} (hin : ∀ w ∈ u_ws C T N, w ∈ WT) (hty : ∀ k, k < N → parseFieldDescriptor (T k).2.2.1 = some (ty0 k)) (hnm : ∀ a, a < N → ∀ b, b < N → a ≠ b → (T a).2.1 ≠ (T b).2.1) (hc : jcl[ci]? = some (C, T, N)) (he : (Z.2.2.1 Z.2.1 m)[q0]? = some (a, .inr (ci, fs))) (hk : k < N) (hlink : Cond.fieldLink own idx C (T k).2.1 (T k).2.2.1 ∈ WT) (hT : (T k).1 = C ∧ (T k).2.2.2 = false ∧ ty0 k = ty) (hn : narrow ty v = v) (hfit : fits ty v = true) (hl0 : k < fs.length) (hset : (Z.2.2.1 Z.2.1 m).set q0 (a, .inr (ci, fs.set k v)) = Z.2.2.1 Z.2.1 m') (d : DD cc pc (.putfield idx) 3 nx) (kk : ∀ m1, m1 = m' → JR Z cv m1 nx ls st (K m1)) : JR Z cv m pc ls (v :: .ref a :: st) (pt m' K) := by
  obtain ⟨d, rfl⟩ := d
  intro a' ha H locs Ls hP hS hl
  refine va_put h.1 h.2.1 h.2.2.2.2.2.1 hin ty0 hty hnm h.2.2.2.2.1 h.2.2.2.2.2.2.1 hP (h.2.2.2.2.2.2.2.2.2.2 m) hS q0 he hc k hk (h.2.2.2.2.2.1 _ hlink) (fun x hx => by rw [hT.1] at hx; exact hx) hT.2.1 (by rw [← hT.2.2]; exact hty k hk) hn hfit hl0 d (fun H1 locs1 hP1 hD1 hS1 => ?_)
  rw [hset] at hP1
  exact kk m' rfl a' ha H1 locs1 Ls hP1 hS1 hl
theorem j_putN (h : OkX Z cc own nL ret lev) {C host : String} {T : u_T} {N ci idx k a q0 : Nat} {fs : List Value} {v : Value} {ty : FieldType} {ty0 : Nat → FieldType} {m' : Mem} {K : Mem → Option α} (hin : ∀ w ∈ u_ws C T N, w ∈ WT) (hty : ∀ k, k < N → parseFieldDescriptor (T k).2.2.1 = some (ty0 k)) (hnm : ∀ a, a < N → ∀ b, b < N → a ≠ b → (T a).2.1 ≠ (T b).2.1) (hc : jcl[ci]? = some (C, T, N)) (he : (Z.2.2.1 Z.2.1 m)[q0]? = some (a, .inr (ci, fs))) (hk : k < N) (hlink : Cond.fieldLinkNest own idx C (T k).2.1 (T k).2.2.1 host ∈ nestW) (hT : (T k).1 = C ∧ (T k).2.2.2 = false ∧ ty0 k = ty) (hn : narrow ty v = v) (hfit : fits ty v = true) (hl0 : k < fs.length) (hset : (Z.2.2.1 Z.2.1 m).set q0 (a, .inr (ci, fs.set k v)) = Z.2.2.1 Z.2.1 m') (d : DD cc pc (.putfield idx) 3 nx) (kk : ∀ m1, m1 = m' → JR Z cv m1 nx ls st (K m1)) : JR Z cv m pc ls (v :: .ref a :: st) (pt m' K) := by
  obtain ⟨d, rfl⟩ := d
  intro a' ha H locs Ls hP hS hl
  refine va_putN h.1 h.2.1 h.2.2.2.2.2.1 hin ty0 hty hnm h.2.2.2.2.1 h.2.2.2.2.2.2.1 hP (h.2.2.2.2.2.2.2.2.2.2 m) hS q0 he hc k hk (va_Nw.use rfl (h.2.2.2.2.2.2.2.1 _ hlink)) (fun x hx => by rw [hT.1] at hx; exact hx) hT.2.1 (by rw [← hT.2.2]; exact hty k hk) hn hfit hl0 d (fun H1 locs1 hP1 hD1 hS1 => ?_)
  rw [hset] at hP1
  exact kk m' rfl a' ha H1 locs1 Ls hP1 hS1 hl
theorem j_iald (h : OkX Z cc own nL ret lev) {a q0 n : Nat} {f : Nat → Int32} {i : Int32} {K : Int32 → Option α} (he : (Z.2.2.1 Z.2.1 m)[q0]? = some (a, .inl (Z.2.1.2.1.1, n, .inl f))) (d : DD cc pc .iaload 1 nx) (kk : ∀ v, v = f i.toNatClampNeg → JR Z cv m nx ls (.int v :: st) (K v)) : JR Z cv m pc ls (.int i :: .ref a :: st) (rd f n i K) := by
  obtain ⟨d, rfl⟩ := d
  intro a' ha H locs Ls hP hS hl
  unfold rd at ha
  split at ha
  · rename_i c
    exact va_iald h.1 h.2.1 h.2.2.2.2.2.2.1 hP q0 0 he rfl c d (kk _ rfl a' ha H locs Ls hP hS hl)
  · cases ha
theorem j_bald (h : OkX Z cc own nL ret lev) {a q0 n : Nat} {f : Nat → Int32} {i : Int32} {K : Int32 → Option α} (he : (Z.2.2.1 Z.2.1 m)[q0]? = some (a, .inl (Z.2.1.2.1.2.1, n, .inl f))) (d : DD cc pc .baload 1 nx) (kk : ∀ v, v = f i.toNatClampNeg → JR Z cv m nx ls (.int v :: st) (K v)) : JR Z cv m pc ls (.int i :: .ref a :: st) (rd f n i K) := by
  obtain ⟨d, rfl⟩ := d
  intro a' ha H locs Ls hP hS hl
  unfold rd at ha
  split at ha
  · rename_i c
    exact va_bald h.1 h.2.1 h.2.2.2.2.2.2.1 hP q0 1 he rfl c d (kk _ rfl a' ha H locs Ls hP hS hl)
  · cases ha
theorem j_zald (h : OkX Z cc own nL ret lev) {a q0 n : Nat} {f : Nat → Int32} {i : Int32} {K : Int32 → Option α} (he : (Z.2.2.1 Z.2.1 m)[q0]? = some (a, .inl (Z.2.1.2.1.2.2.2, n, .inl f))) (d : DD cc pc .baload 1 nx) (kk : ∀ v, v = f i.toNatClampNeg → JR Z cv m nx ls (.int v :: st) (K v)) : JR Z cv m pc ls (.int i :: .ref a :: st) (rd f n i K) := by
  obtain ⟨d, rfl⟩ := d
  intro a' ha H locs Ls hP hS hl
  unfold rd at ha
  split at ha
  · rename_i c
    exact va_zald h.1 h.2.1 h.2.2.2.2.2.2.1 hP q0 3 he rfl c d (kk _ rfl a' ha H locs Ls hP hS hl)
  · cases ha
theorem j_lald (h : OkX Z cc own nL ret lev) {a q0 n : Nat} {f : Nat → Int64} {i : Int32} {K : Int64 → Option α} (he : (Z.2.2.1 Z.2.1 m)[q0]? = some (a, .inl (Z.2.1.2.1.2.2.1, n, .inr (.inl f)))) (d : DD cc pc .laload 1 nx) (kk : ∀ v, v = f i.toNatClampNeg → JR Z cv m nx ls (.long v :: st) (K v)) : JR Z cv m pc ls (.int i :: .ref a :: st) (rdL f n i K) := by
  obtain ⟨d, rfl⟩ := d
  intro a' ha H locs Ls hP hS hl
  unfold rdL at ha
  split at ha
  · rename_i c
    exact va_lald h.1 h.2.1 h.2.2.2.2.2.2.1 hP q0 2 he rfl c d (kk _ rfl a' ha H locs Ls hP hS hl)
  · cases ha
theorem j_iast (h : OkX Z cc own nL ret lev) {a q0 q n : Nat} {i x : Int32} {K : Mem → Option α} (he : (Z.2.2.1 Z.2.1 m)[q0]? = some (a, .inl (Z.2.1.2.1.1, n, .inl (m.1 q)))) (hset : ∀ g, (Z.2.2.1 Z.2.1 m).set q0 (a, .inl (Z.2.1.2.1.1, n, .inl g)) = Z.2.2.1 Z.2.1 (sW m q g)) (d : DD cc pc .iastore 1 nx) (kk : ∀ m1, m1 = sI m q i.toNatClampNeg x → JR Z cv m1 nx ls st (K m1)) : JR Z cv m pc ls (.int x :: .int i :: .ref a :: st) (wr m q n i x K) := by
  obtain ⟨d, rfl⟩ := d
  intro a' ha H locs Ls hP hS hl
  unfold wr at ha
  split at ha
  · rename_i c
    refine va_iast h.1 h.2.1 h.2.2.2.2.2.2.1 hP (h.2.2.2.2.2.2.2.2.2.2 m) hS q0 0 he rfl c d (fun H1 locs1 hP1 hD1 hS1 => ?_)
    rw [hset] at hP1
    exact kk _ rfl a' ha H1 locs1 Ls hP1 hS1 hl
  · cases ha
theorem j_bast (h : OkX Z cc own nL ret lev) {a q0 q n : Nat} {i x : Int32} {K : Mem → Option α} (he : (Z.2.2.1 Z.2.1 m)[q0]? = some (a, .inl (Z.2.1.2.1.2.1, n, .inl (m.1 q)))) (hset : ∀ g, (Z.2.2.1 Z.2.1 m).set q0 (a, .inl (Z.2.1.2.1.2.1, n, .inl g)) = Z.2.2.1 Z.2.1 (sW m q g)) (d : DD cc pc .bastore 1 nx) (kk : ∀ m1, m1 = sI m q i.toNatClampNeg (vp_nar .byte x) → JR Z cv m1 nx ls st (K m1)) : JR Z cv m pc ls (.int x :: .int i :: .ref a :: st) (wr m q n i (vp_nar .byte x) K) := by
  obtain ⟨d, rfl⟩ := d
  intro a' ha H locs Ls hP hS hl
  unfold wr at ha
  split at ha
  · rename_i c
    refine va_bast h.1 h.2.1 h.2.2.2.2.2.2.1 hP (h.2.2.2.2.2.2.2.2.2.2 m) hS q0 1 he rfl c d (fun H1 locs1 hP1 hD1 hS1 => ?_)
    rw [hset] at hP1
    exact kk _ rfl a' ha H1 locs1 Ls hP1 hS1 hl
  · cases ha
theorem j_zast (h : OkX Z cc own nL ret lev) {a q0 q n : Nat} {i x : Int32} {K : Mem → Option α} (he : (Z.2.2.1 Z.2.1 m)[q0]? = some (a, .inl (Z.2.1.2.1.2.2.2, n, .inl (m.1 q)))) (hset : ∀ g, (Z.2.2.1 Z.2.1 m).set q0 (a, .inl (Z.2.1.2.1.2.2.2, n, .inl g)) = Z.2.2.1 Z.2.1 (sW m q g)) (d : DD cc pc .bastore 1 nx) (kk : ∀ m1, m1 = sI m q i.toNatClampNeg (vp_nar .boolean x) → JR Z cv m1 nx ls st (K m1)) : JR Z cv m pc ls (.int x :: .int i :: .ref a :: st) (wr m q n i (vp_nar .boolean x) K) := by
  obtain ⟨d, rfl⟩ := d
  intro a' ha H locs Ls hP hS hl
  unfold wr at ha
  split at ha
  · rename_i c
    refine va_zast h.1 h.2.1 h.2.2.2.2.2.2.1 hP (h.2.2.2.2.2.2.2.2.2.2 m) hS q0 3 he rfl c d (fun H1 locs1 hP1 hD1 hS1 => ?_)
    rw [hset] at hP1
    exact kk _ rfl a' ha H1 locs1 Ls hP1 hS1 hl
  · cases ha
theorem j_last (h : OkX Z cc own nL ret lev) {a q0 q n : Nat} {i : Int32} {x : Int64} {K : Mem → Option α} (he : (Z.2.2.1 Z.2.1 m)[q0]? = some (a, .inl (Z.2.1.2.1.2.2.1, n, .inr (.inl (m.2.1 q))))) (hset : (Z.2.2.1 Z.2.1 m).set q0 (a, .inl (Z.2.1.2.1.2.2.1, n, .inr (.inl (vp_updL (m.2.1 q) i.toNatClampNeg x)))) = Z.2.2.1 Z.2.1 (sL m q i.toNatClampNeg x)) (d : DD cc pc .lastore 1 nx) (kk : ∀ m1, m1 = sL m q i.toNatClampNeg x → JR Z cv m1 nx ls st (K m1)) : JR Z cv m pc ls (.long x :: .int i :: .ref a :: st) (wrL m q n i x K) := by
  obtain ⟨d, rfl⟩ := d
  intro a' ha H locs Ls hP hS hl
  unfold wrL at ha
  split at ha
  · rename_i c
    refine va_last h.1 h.2.1 h.2.2.2.2.2.2.1 hP (h.2.2.2.2.2.2.2.2.2.2 m) hS q0 2 he rfl c d (fun H1 locs1 hP1 hD1 hS1 => ?_)
    rw [hset] at hP1
    exact kk _ rfl a' ha H1 locs1 Ls hP1 hS1 hl
  · cases ha
theorem j_alen (h : OkX Z cc own nL ret lev) {a q0 : Nat} {x : vp_A} {v : Int32} (he : (Z.2.2.1 Z.2.1 m)[q0]? = some (a, .inl (Z.2.1.2.1.1, x))) (hv : Int32.ofNat x.1 = v) (d : DD cc pc .arraylength 1 nx) (kk : JR Z cv m nx ls (.int v :: st) E) : JR Z cv m pc ls (.ref a :: st) E := by
  obtain ⟨d, rfl⟩ := d
  intro a' ha H locs Ls hP hS hl
  exact va_alen h.1 h.2.1 h.2.2.2.2.2.2.1 hP q0 0 he rfl hv d (kk a' ha H locs Ls hP hS hl)
/-- ends -/
theorem j_iret (h : OkX Z cc own nL (some .int) lev) {a : α} {v : Int32} (hcv : cv a = (some (.int v), m)) (d : DD cc pc .ireturn 1 nx) : JR Z cv m pc ls [.int v] (some a) := by
  obtain ⟨d, rfl⟩ := d
  intro a' ha H locs Ls hP hS hl
  cases ha
  exact W.iret h.1 h.2.1 h.2.2.1 (fun t ht hW => ⟨by rw [hcv], by rw [hcv, ht]; exact hP, hS.F ht⟩) hS.2.2 d (hlocks := h.2.2.2.2.2.2.2.2.1)
theorem j_zretB (h : OkX Z cc own nL (some .boolean) lev) {a : α} {v : Int32} (hcv : cv a = (some (.int v), m)) (hn : narrow .boolean (.int v) = .int v) (d : DD cc pc .ireturn 1 nx) : JR Z cv m pc ls [.int v] (some a) := by
  obtain ⟨d, rfl⟩ := d
  intro a' ha H locs Ls hP hS hl
  cases ha
  exact W.zret h.1 h.2.1 h.2.2.1 hn (fun t ht hW => ⟨by rw [hcv], by rw [hcv, ht]; exact hP, hS.F ht⟩) hS.2.2 d (hlocks := h.2.2.2.2.2.2.2.2.1)
theorem j_zret (h : OkX Z cc own nL (some .boolean) lev) {a : α} {v : Int32} (hcv : cv a = (some (.int v), m)) (d : DD cc pc .ireturn 1 nx) : JR Z cv m pc ls [.int v] (tz v (some a)) := by
  intro a' ha
  by_cases c : narrow .boolean (.int v) = .int v
  · rw [tz, if_pos c] at ha
    exact j_zretB h hcv c d a' ha
  · rw [tz, if_neg c] at ha
    cases ha
theorem j_lret (h : OkX Z cc own nL (some .long) lev) {a : α} {v : Int64} (hcv : cv a = (some (.long v), m)) (d : DD cc pc .lreturn 1 nx) : JR Z cv m pc ls [.long v] (some a) := by
  obtain ⟨d, rfl⟩ := d
  intro a' ha H locs Ls hP hS hl
  cases ha
  exact W.lret h.1 h.2.1 h.2.2.1 (fun t ht hW => ⟨by rw [hcv], by rw [hcv, ht]; exact hP, hS.F ht⟩) hS.2.2 d (hlocks := h.2.2.2.2.2.2.2.2.1)
theorem j_vret (h : OkX Z cc own nL none lev) {a : α} (hcv : cv a = (none, m)) (d : DD cc pc .return_ 1 nx) : JR Z cv m pc ls [] (some a) := by
  obtain ⟨d, rfl⟩ := d
  intro a' ha H locs Ls hP hS hl
  cases ha
  exact W.vret h.1 h.2.1 h.2.2.1 (fun t ht hW => ⟨by rw [hcv], by rw [hcv, ht]; exact hP, hS.F ht⟩) hS.2.2 d (hlocks := h.2.2.2.2.2.2.2.2.1)
theorem j_aret {C : String} (h : OkX Z cc own nL (some (.object C)) lev) {a : α} {q : Nat} (hcv : cv a = (some (.ref q), m)) (d : DD cc pc .areturn 1 nx) : JR Z cv m pc ls [.ref q] (some a) := by
  obtain ⟨d, rfl⟩ := d
  intro a' ha H locs Ls hP hS hl
  cases ha
  exact W.aret h.1 h.2.1 h.2.2.1 (Or.inl ⟨_, rfl⟩) (Or.inr ⟨_, rfl⟩) (fun t ht hW => ⟨by rw [hcv], by rw [hcv, ht]; exact hP, hS.F ht⟩) hS.2.2 d (hlocks := h.2.2.2.2.2.2.2.2.1)
/-- switches -/
theorem j_tabIn (h : OkX Z cc own nL ret lev) {dflt lo hi off : Int} {offs : Array Int} {len tgt : Nat} {x v : Int32} (hx : x = v) (d : DD cc pc (.tableswitch dflt lo hi offs) len nx) (h1 : ¬ v.toInt < lo) (h2 : ¬ hi < v.toInt) (ho : offs[(v.toInt - lo).toNat]? = some off) (ht : (pc : Int) + off = (tgt : Int)) (k : JR Z cv m tgt ls st E) : JR Z cv m pc ls (.int x :: st) E := by
  subst hx
  obtain ⟨d, -⟩ := d
  intro a ha H locs Ls hP hS hl
  exact lv_tableIn h.1 h.2.1 d h1 h2 ho ht (k a ha H locs Ls hP hS hl)
theorem j_tabOut (h : OkX Z cc own nL ret lev) {dflt lo hi : Int} {offs : Array Int} {len tgt : Nat} {x : Int32} (vs : List Int32) (d : DD cc pc (.tableswitch dflt lo hi offs) len nx) (hx : ∀ v ∈ vs, ¬ x = v) (hvs : hi = lo + vs.length - 1) (hv : ∀ k, k < vs.length → ∃ v, vs[k]? = some v ∧ v.toInt = lo + k) (ht : (pc : Int) + dflt = (tgt : Int)) (k : JR Z cv m tgt ls st E) : JR Z cv m pc ls (.int x :: st) E := by
  obtain ⟨d, -⟩ := d
  intro a ha H locs Ls hP hS hl
  refine lv_tableOut h.1 h.2.1 d ?_ ht (k a ha H locs Ls hP hS hl)
  by_cases c1 : x.toInt < lo
  · exact Or.inl c1
  · by_cases c2 : hi < x.toInt
    · exact Or.inr c2
    · exfalso
      obtain ⟨v, e1, e2⟩ := hv (x.toInt - lo).toNat (by omega)
      exact hx v (List.mem_of_getElem? e1) (Int32.toInt_inj.mp (by rw [e2]; omega))
theorem j_lookup (h : OkX Z cc own nL ret lev) {dflt off : Int} {ps : Array (Int × Int)} {len tgt : Nat} {x : Int32} (d : DD cc pc (.lookupswitch dflt ps) len nx) (hp : (ps.toList.zip (ps.toList.drop 1)).all (fun (a, next) => a.1 < next.1) = true) (ho : Op.lookupswitch.offset ps.toList dflt x.toInt = off) (ht : (pc : Int) + off = (tgt : Int)) (k : JR Z cv m tgt ls st E) : JR Z cv m pc ls (.int x :: st) E := by
  obtain ⟨d, -⟩ := d
  intro a ha H locs Ls hP hS hl
  exact lv_lookup h.1 h.2.1 d hp ho ht (k a ha H locs Ls hP hS hl)
end R2
/-! calls -/
theorem good_wt {ws : List Cond} (h : ∀ w ∈ ws, w ∈ WT) : GoodIn WT ws := fun w hw => ⟨h w hw, good_of_word (List.mem_filter.mp (h w hw)).2⟩
/-- what a call's words are: of the method, and of the call's own place -/
def mOK (y : MethodName) (bytes : ByteArray) (maxL : Nat) (ret : Option FieldType) (n : Nat) : Prop :=
  (Cond.initialized y.cls ∈ WT) ∧ (Cond.code y bytes maxL ret ∈ WT) ∧ y.cls ≠ "java/lang/invoke/MethodHandle" ∧ y.cls ≠ "java/lang/invoke/VarHandle" ∧ (parseMethodDescriptor y.desc).map (fun d => d.parameters.length) = some n
theorem Hd.blind {G : Gt} {wf : Wf} {m : Mem} {as : List Value} : FrameBlind (va_Pc as (Hd G wf m)) := fun a U g mk q => ⟨q.1, q.2.1, va_K.moved (u := U) (U := U.calling g mk a) (Vm.Alike.refl U.vm) q.2.2.1, NW.calling g mk a q.2.2.2⟩
theorem callOK {Z : Zx} {cc : ByteArray} {own : String} {nL : Nat} {ret : Option FieldType} {lev : Nat} (h : OkX Z cc own nL ret lev) {y : MethodName} {bytes : ByteArray} {maxL n idx lev2 : Nat} {ret2 : Option FieldType} (hM : mOK y bytes maxL ret2 n) (hl : Cond.methodLink own idx y ∈ WT) (hlev : lev2 < lev) (hmax : maxL ≤ 45) : CallB Z.1.2.2.2.1 Z.1.2.2.2.2.1 Z.1.2.2.2.2.2.2.1 own idx y bytes maxL ret2 (.code y bytes maxL ret2 :: WT) (rmv lev2) 0 0 n := by
  obtain ⟨h1, h2, h3, h4, h5⟩ := hM
  refine callB_of (Ts := WT) n h.2.2.2.2.2.1 (good_wt ?_) rfl rfl rfl (h.2.2.2.2.2.1 _ h1) (h.2.2.2.2.2.1 _ hl) ⟨h3, h4, h5⟩ ?_
  · intro w hw
    rcases List.mem_cons.mp hw with rfl | hw
    · exact h2
    · exact hw
  · rw [h.2.2.2.2.2.2.2.2.2.1]
    simp only [rmv]
    omega
theorem j_back {α β : Type} {Z : Zx} {cc : ByteArray} {own : String} {nL : Nat} {ret : Option FieldType} {lev : Nat} (h : OkX Z cc own nL ret lev) {cv : α → Option Value × Mem} {m : Mem} {pc : Nat} {ls : List (Option Value)} {st st0 : List Value} {cv2 : β → Option Value × Mem} {F : Option β} {K : β → Option α} {as : Array Value}
    (run : ∀ b, F = some b → ∀ (H : Heap) (locs : List Loc) (Ls : Array Slot), va_P Z.2.1.1 jcl (Z.2.2.1 Z.2.1 m) H → lO Ls ls → va_Run Z.1.1 Z.1.2.1 Z.1.2.2.1 Z.1.2.2.2.1 Z.1.2.2.2.2.1 Z.1.2.2.2.2.2.1 Z.1.2.2.2.2.2.2.1 Z.1.2.2.2.2.2.2.2.1 Z.1.2.2.2.2.2.2.2.2.1 Z.1.2.2.2.2.2.2.2.2.2 H locs 0 0 0 0 (F0 Z.1.2.2.2.2.2.1 pc Ls st0) st (Qo Z.2.1 Z.2.2.1 Z.2.2.2 (cv2 b) as) (inA Z.2.1 Z.2.2.2))
    (kk : ∀ b, F = some b → JR Z cv (cv2 b).2 (pc + 3) ls ((cv2 b).1.toList ++ st) (K b)) : JR Z cv m pc ls st0 (F.bind K) := by
  intro a ha H locs Ls hP hS hl
  cases hF : F with
  | none => rw [hF] at ha; cases ha
  | some b =>
    rw [hF] at ha
    have ha : K b = some a := ha
    intro T hT X
    obtain ⟨v, st₀, t, T', L, h0, X', hL, e1, e2, ⟨hv, hp, hz, hk⟩, sg⟩ := run b hF H locs Ls hP hl T hT X
    cases hv
    rw [h0] at hz hk
    obtain ⟨t2, a1, b1⟩ := kk b hF a ha T'.heap (locs ++ L) Ls (by rw [e1]; exact hp) ⟨Nat.le_trans hS.1 (by rw [e1]; exact hz), fun q h1 h2 => by rw [e1, hk q (Nat.lt_of_lt_of_le h1 hS.1) h2]; exact hS.2.1 q h1 h2, fun q hq => by
      rcases List.mem_append.mp hq with h | h
      · exact hS.2.2 q h
      · exact hL q h⟩ hl T' rfl X'
    exact ⟨t2, sg t2 a1, b1⟩
theorem j_callV {α β : Type} {Z : Zx} {cc : ByteArray} {own : String} {nL : Nat} {ret : Option FieldType} {lev : Nat} (h : OkX Z cc own nL ret lev) {cv : α → Option Value × Mem} {m : Mem} {pc nx : Nat} {ls : List (Option Value)} {st st0 : List Value} {cv2 : β → Option Value × Mem} {F : Option β} {K : β → Option α} {y : MethodName} {bytes : ByteArray} {maxL n idx lev2 b q0 ci N : Nat} {T : u_T} {fs : List Value} {ret2 : Option FieldType} (As : List Value)
    (hct : ∀ a, F = some a → Ct Z.1.2.1 Z.2.1 Z.2.2.1 Z.2.2.2 y bytes maxL ret2 lev2 (.ref b :: As) m (cv2 a)) (hM : mOK y bytes maxL ret2 n) (hi : Cond.instanceMethod y ∈ WT ∧ Cond.selects y.cls y y ∈ WT) (hlk : Cond.methodLink own idx y ∈ WT) (hc : jcl[ci]? = some (y.cls, T, N)) (he : (Z.2.2.1 Z.2.1 m)[q0]? = some (b, .inr (ci, fs))) (hst : st0 = As.reverse ++ .ref b :: st) (hAs : As.length = n) (hlev : lev2 < lev) (hmax : maxL ≤ 45) (hroom : (st.map fun v => v.category).sum ≤ 8) (hnl : ls.length = nL) (d : DD cc pc (.invokevirtual idx) 3 nx)
    (kk : ∀ a, F = some a → JR Z cv (cv2 a).2 nx ls ((cv2 a).1.toList ++ st) (K a)) : JR Z cv m pc ls st0 (F.bind K) := by
  obtain ⟨d, rfl⟩ := d
  refine j_back (as := (Value.ref b :: As).toArray) h (fun a ha H locs Ls hP hl => ?_) kk
  exact va_runV (C := y.cls) (Ts := WT) ⟨h.1, h.2.1, h.2.2.2.1, h.2.2.2.2.1, h.2.2.2.2.2.1⟩ (hct a ha) ⟨callOK h hM hlk hlev hmax, h.2.2.2.2.2.1 _ hi.1, h.2.2.2.2.2.1 _ hi.2⟩ ⟨Hd.blind, va_recv h.2.2.2.2.2.2.1 hP hc he, fun U hU hW => ⟨rfl, by rw [hU]; exact hP, va_K.moved hW.alike h.2.2.2.2.2.2.1, NW.warm hW h.2.2.2.2.2.2.2.1⟩⟩ rfl hAs (hl.1.trans hnl) hst (lv_room hroom) d ⟨Nat.zero_le _, Nat.zero_le _⟩
theorem j_callS {α β : Type} {Z : Zx} {cc : ByteArray} {own : String} {nL : Nat} {ret : Option FieldType} {lev : Nat} (h : OkX Z cc own nL ret lev) {cv : α → Option Value × Mem} {m : Mem} {pc nx : Nat} {ls : List (Option Value)} {st st0 : List Value} {cv2 : β → Option Value × Mem} {F : Option β} {K : β → Option α} {y : MethodName} {bytes : ByteArray} {maxL n idx lev2 : Nat} {ret2 : Option FieldType} (As : List Value)
    (hct : ∀ a, F = some a → Ct Z.1.2.1 Z.2.1 Z.2.2.1 Z.2.2.2 y bytes maxL ret2 lev2 As m (cv2 a)) (hM : mOK y bytes maxL ret2 n) (hi : Cond.static y ∈ WT) (hlk : Cond.methodLink own idx y ∈ WT) (hst : st0 = As.reverse ++ st) (hAs : As.length = n) (hlev : lev2 < lev) (hmax : maxL ≤ 45) (hroom : (st.map fun v => v.category).sum ≤ 8) (hnl : ls.length = nL) (d : DD cc pc (.invokestatic idx) 3 nx)
    (kk : ∀ a, F = some a → JR Z cv (cv2 a).2 nx ls ((cv2 a).1.toList ++ st) (K a)) : JR Z cv m pc ls st0 (F.bind K) := by
  obtain ⟨d, rfl⟩ := d
  refine j_back (as := As.toArray) h (fun a ha H locs Ls hP hl => ?_) kk
  exact va_runS (Ts := WT) ⟨h.1, h.2.1, h.2.2.2.1, h.2.2.2.2.1, h.2.2.2.2.2.1⟩ (hct a ha) ⟨callOK h hM hlk hlev hmax, h.2.2.2.2.2.1 _ hi⟩ ⟨Hd.blind, fun U hU hW => ⟨rfl, by rw [hU]; exact hP, va_K.moved hW.alike h.2.2.2.2.2.2.1, NW.warm hW h.2.2.2.2.2.2.2.1⟩⟩ rfl hAs (hl.1.trans hnl) hst (lv_room hroom) d ⟨Nat.zero_le _, Nat.zero_le _⟩
/-- a walk of the body is a contract -/
theorem ct_of {α : Type} {G : Gt} {wf : Wf} {n : Nat} {y : MethodName} {bytes : ByteArray} {maxL : Nat} {ret : Option FieldType} {lev : Nat} {as : List Value} {m : Mem} {cv : α → Option Value × Mem} {E : Option α} {own : String} (hy : plainName y.cls = true) (hown : y.cls = own) {ls0 : List (Option Value)} (hls : aL 0 ls0 = lv_args 0 as) (hlen : ls0.length = maxL) (hsl : (lg_sl as).length ≤ maxL) (hD : ∀ m, va_D (inA G n) (wf G m)) (walk : ∀ X : Cx, OkX (X, G, wf, n) bytes own maxL ret lev → JR (X, G, wf, n) cv m 0 ls0 [] E) (l : Launch) : ∀ a, E = some a → Ct l G wf n y bytes maxL ret lev as m (cv a) := by
  intro a ha
  subst hown
  refine Met.ofW (cc := bytes) (maxL := maxL) (ret := ret) hy rfl ?_
  intro p e s mm args below meth c s₁ B hml hv
  obtain ⟨rfl, hP, hK, hN⟩ := hv
  have hts := atoms_spec (ws := Cond.code y bytes maxL ret :: WT) B.pre
  have hl := lv_entry as (n := maxL) hsl
  rw [lg_entry_eq]
  refine walk (p, l, e, _, s, mm, _, below, meth, c) ⟨B.exec, B.bytes, B.returns, hml, findClass_of_methodNamed B.named, fun w hw => hts w (List.mem_cons_of_mem _ hw), hK, hN, B.notSynchronized, rfl, hD⟩ a ha s.heap [] _ hP va_S.rf ?_
  show lv_has _ ls0.length (aL 0 ls0)
  rw [hls, hlen]
  exact hl
end
