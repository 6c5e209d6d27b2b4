section
-- ===== PART A: goes FIRST, ahead of the names: the tables' words, and 'selects' of the private methods out of them =====
/-- a private method of a class that the tables say can be made, by its rows of tables_1 -/
def lw_okq (q : MethodName × Nat) : Prop := (q.1.cls ≠ "java/lang/invoke/MethodHandle" ∧ q.1.cls ≠ "java/lang/invoke/VarHandle") ∧ Cond.instantiable q.1.cls q.2 ∈ tables_1 ∧ Cond.privateMethod q.1 ∈ tables_1 ∧ Cond.instanceMethod q.1 ∈ tables_1
theorem lw_p0 : lw_okq (⟨"HillHouses", "found", "(I)I"⟩, 8) := ⟨⟨by decide +kernel, by decide +kernel⟩, List.mem_of_getElem? (i := 17) (by decide +kernel), List.mem_of_getElem? (i := 192) (by decide +kernel), List.mem_of_getElem? (i := 193) (by decide +kernel)⟩
theorem lw_p1 : lw_okq (⟨"HillHouses", "answered", "(I)I"⟩, 8) := ⟨⟨by decide +kernel, by decide +kernel⟩, List.mem_of_getElem? (i := 17) (by decide +kernel), List.mem_of_getElem? (i := 203) (by decide +kernel), List.mem_of_getElem? (i := 204) (by decide +kernel)⟩
theorem lw_p2 : lw_okq (⟨"HillHouses$Tape", "step", "()V"⟩, 8) := ⟨⟨by decide +kernel, by decide +kernel⟩, List.mem_of_getElem? (i := 45) (by decide +kernel), List.mem_of_getElem? (i := 274) (by decide +kernel), List.mem_of_getElem? (i := 275) (by decide +kernel)⟩
theorem lw_p3 : lw_okq (⟨"HillHouses$Tape", "byteAt", "(I)I"⟩, 8) := ⟨⟨by decide +kernel, by decide +kernel⟩, List.mem_of_getElem? (i := 45) (by decide +kernel), List.mem_of_getElem? (i := 278) (by decide +kernel), List.mem_of_getElem? (i := 279) (by decide +kernel)⟩
theorem lw_p4 : lw_okq (⟨"HillHouses$Tape", "stepOverName", "()V"⟩, 8) := ⟨⟨by decide +kernel, by decide +kernel⟩, List.mem_of_getElem? (i := 45) (by decide +kernel), List.mem_of_getElem? (i := 288) (by decide +kernel), List.mem_of_getElem? (i := 289) (by decide +kernel)⟩
theorem lw_p5 : lw_okq (⟨"HillHouses$Tape", "stepOverNumber", "()V"⟩, 8) := ⟨⟨by decide +kernel, by decide +kernel⟩, List.mem_of_getElem? (i := 45) (by decide +kernel), List.mem_of_getElem? (i := 295) (by decide +kernel), List.mem_of_getElem? (i := 296) (by decide +kernel)⟩
theorem lw_p6 : lw_okq (⟨"HillHouses$Tape", "readSlope", "(LHillHouses$Slope;)Z"⟩, 8) := ⟨⟨by decide +kernel, by decide +kernel⟩, List.mem_of_getElem? (i := 45) (by decide +kernel), List.mem_of_getElem? (i := 299) (by decide +kernel), List.mem_of_getElem? (i := 300) (by decide +kernel)⟩
theorem lw_p7 : lw_okq (⟨"HillHouses$Tape", "takeWord", "(Ljava/lang/String;)Z"⟩, 8) := ⟨⟨by decide +kernel, by decide +kernel⟩, List.mem_of_getElem? (i := 45) (by decide +kernel), List.mem_of_getElem? (i := 304) (by decide +kernel), List.mem_of_getElem? (i := 305) (by decide +kernel)⟩
theorem lw_p8 : lw_okq (⟨"HillHouses$Tape", "isWord", "(Ljava/lang/String;)Z"⟩, 8) := ⟨⟨by decide +kernel, by decide +kernel⟩, List.mem_of_getElem? (i := 45) (by decide +kernel), List.mem_of_getElem? (i := 308) (by decide +kernel), List.mem_of_getElem? (i := 309) (by decide +kernel)⟩
theorem lw_p9 : lw_okq (⟨"HillHouses$Tape", "fail", "(I)Z"⟩, 8) := ⟨⟨by decide +kernel, by decide +kernel⟩, List.mem_of_getElem? (i := 45) (by decide +kernel), List.mem_of_getElem? (i := 360) (by decide +kernel), List.mem_of_getElem? (i := 361) (by decide +kernel)⟩
theorem lw_p10 : lw_okq (⟨"HillHouses$Tape", "takeNumber", "(II)I"⟩, 8) := ⟨⟨by decide +kernel, by decide +kernel⟩, List.mem_of_getElem? (i := 45) (by decide +kernel), List.mem_of_getElem? (i := 364) (by decide +kernel), List.mem_of_getElem? (i := 365) (by decide +kernel)⟩
theorem lw_p11 : lw_okq (⟨"HillHouses$Tape", "takeSign", "()Z"⟩, 8) := ⟨⟨by decide +kernel, by decide +kernel⟩, List.mem_of_getElem? (i := 45) (by decide +kernel), List.mem_of_getElem? (i := 375) (by decide +kernel), List.mem_of_getElem? (i := 376) (by decide +kernel)⟩
theorem lw_p12 : lw_okq (⟨"HillHouses$Tape", "readStone", "(LHillHouses$Slope;)Z"⟩, 8) := ⟨⟨by decide +kernel, by decide +kernel⟩, List.mem_of_getElem? (i := 45) (by decide +kernel), List.mem_of_getElem? (i := 380) (by decide +kernel), List.mem_of_getElem? (i := 381) (by decide +kernel)⟩
theorem lw_p13 : lw_okq (⟨"HillHouses$Tape", "readHouse", "(LHillHouses$Slope;)Z"⟩, 8) := ⟨⟨by decide +kernel, by decide +kernel⟩, List.mem_of_getElem? (i := 45) (by decide +kernel), List.mem_of_getElem? (i := 405) (by decide +kernel), List.mem_of_getElem? (i := 406) (by decide +kernel)⟩
theorem lw_p14 : lw_okq (⟨"HillHouses$Tape", "takeKind", "()I"⟩, 8) := ⟨⟨by decide +kernel, by decide +kernel⟩, List.mem_of_getElem? (i := 45) (by decide +kernel), List.mem_of_getElem? (i := 409) (by decide +kernel), List.mem_of_getElem? (i := 410) (by decide +kernel)⟩
theorem lw_p15 : lw_okq (⟨"HillHouses$Tape", "kindByWord", "()I"⟩, 8) := ⟨⟨by decide +kernel, by decide +kernel⟩, List.mem_of_getElem? (i := 45) (by decide +kernel), List.mem_of_getElem? (i := 413) (by decide +kernel), List.mem_of_getElem? (i := 414) (by decide +kernel)⟩
def lw_privs_1 : List (MethodName × Nat) := [(⟨"HillHouses", "found", "(I)I"⟩, 8), (⟨"HillHouses", "answered", "(I)I"⟩, 8), (⟨"HillHouses$Tape", "step", "()V"⟩, 8), (⟨"HillHouses$Tape", "byteAt", "(I)I"⟩, 8), (⟨"HillHouses$Tape", "stepOverName", "()V"⟩, 8), (⟨"HillHouses$Tape", "stepOverNumber", "()V"⟩, 8), (⟨"HillHouses$Tape", "readSlope", "(LHillHouses$Slope;)Z"⟩, 8), (⟨"HillHouses$Tape", "takeWord", "(Ljava/lang/String;)Z"⟩, 8), (⟨"HillHouses$Tape", "isWord", "(Ljava/lang/String;)Z"⟩, 8), (⟨"HillHouses$Tape", "fail", "(I)Z"⟩, 8), (⟨"HillHouses$Tape", "takeNumber", "(II)I"⟩, 8), (⟨"HillHouses$Tape", "takeSign", "()Z"⟩, 8), (⟨"HillHouses$Tape", "readStone", "(LHillHouses$Slope;)Z"⟩, 8), (⟨"HillHouses$Tape", "readHouse", "(LHillHouses$Slope;)Z"⟩, 8), (⟨"HillHouses$Tape", "takeKind", "()I"⟩, 8), (⟨"HillHouses$Tape", "kindByWord", "()I"⟩, 8)]
theorem lw_r1 : ∀ q ∈ lw_privs_1, lw_okq q := List.forall_mem_cons.mpr ⟨lw_p0, List.forall_mem_cons.mpr ⟨lw_p1, List.forall_mem_cons.mpr ⟨lw_p2, List.forall_mem_cons.mpr ⟨lw_p3, List.forall_mem_cons.mpr ⟨lw_p4, List.forall_mem_cons.mpr ⟨lw_p5, List.forall_mem_cons.mpr ⟨lw_p6, List.forall_mem_cons.mpr ⟨lw_p7, List.forall_mem_cons.mpr ⟨lw_p8, List.forall_mem_cons.mpr ⟨lw_p9, List.forall_mem_cons.mpr ⟨lw_p10, List.forall_mem_cons.mpr ⟨lw_p11, List.forall_mem_cons.mpr ⟨lw_p12, List.forall_mem_cons.mpr ⟨lw_p13, List.forall_mem_cons.mpr ⟨lw_p14, List.forall_mem_cons.mpr ⟨lw_p15, fun _ h => absurd h List.not_mem_nil⟩⟩⟩⟩⟩⟩⟩⟩⟩⟩⟩⟩⟩⟩⟩⟩
theorem lw_p16 : lw_okq (⟨"HillHouses$Slope", "lineUp", "()V"⟩, 14) := ⟨⟨by decide +kernel, by decide +kernel⟩, List.mem_of_getElem? (i := 106) (by decide +kernel), List.mem_of_getElem? (i := 503) (by decide +kernel), List.mem_of_getElem? (i := 504) (by decide +kernel)⟩
theorem lw_p17 : lw_okq (⟨"HillHouses$Slope", "mayRoll", "(I)Z"⟩, 14) := ⟨⟨by decide +kernel, by decide +kernel⟩, List.mem_of_getElem? (i := 106) (by decide +kernel), List.mem_of_getElem? (i := 507) (by decide +kernel), List.mem_of_getElem? (i := 508) (by decide +kernel)⟩
theorem lw_p18 : lw_okq (⟨"HillHouses$Slope", "wasAloneInYard", "(I)Z"⟩, 14) := ⟨⟨by decide +kernel, by decide +kernel⟩, List.mem_of_getElem? (i := 106) (by decide +kernel), List.mem_of_getElem? (i := 515) (by decide +kernel), List.mem_of_getElem? (i := 516) (by decide +kernel)⟩
theorem lw_p19 : lw_okq (⟨"HillHouses$Slope", "roll", "(I)Z"⟩, 14) := ⟨⟨by decide +kernel, by decide +kernel⟩, List.mem_of_getElem? (i := 106) (by decide +kernel), List.mem_of_getElem? (i := 519) (by decide +kernel), List.mem_of_getElem? (i := 520) (by decide +kernel)⟩
theorem lw_p20 : lw_okq (⟨"HillHouses$Slope", "lendHands", "(I)V"⟩, 14) := ⟨⟨by decide +kernel, by decide +kernel⟩, List.mem_of_getElem? (i := 106) (by decide +kernel), List.mem_of_getElem? (i := 534) (by decide +kernel), List.mem_of_getElem? (i := 535) (by decide +kernel)⟩
theorem lw_p21 : lw_okq (⟨"HillHouses", "chockAsAct", "(II)I"⟩, 8) := ⟨⟨by decide +kernel, by decide +kernel⟩, List.mem_of_getElem? (i := 17) (by decide +kernel), List.mem_of_getElem? (i := 546) (by decide +kernel), List.mem_of_getElem? (i := 547) (by decide +kernel)⟩
theorem lw_p22 : lw_okq (⟨"HillHouses", "rollTrial", "(I)V"⟩, 8) := ⟨⟨by decide +kernel, by decide +kernel⟩, List.mem_of_getElem? (i := 17) (by decide +kernel), List.mem_of_getElem? (i := 604) (by decide +kernel), List.mem_of_getElem? (i := 605) (by decide +kernel)⟩
theorem lw_p23 : lw_okq (⟨"HillHouses", "isPair", "(II)Z"⟩, 8) := ⟨⟨by decide +kernel, by decide +kernel⟩, List.mem_of_getElem? (i := 17) (by decide +kernel), List.mem_of_getElem? (i := 621) (by decide +kernel), List.mem_of_getElem? (i := 622) (by decide +kernel)⟩
theorem lw_p24 : lw_okq (⟨"HillHouses", "meetsBy", "(IIIII)Z"⟩, 8) := ⟨⟨by decide +kernel, by decide +kernel⟩, List.mem_of_getElem? (i := 17) (by decide +kernel), List.mem_of_getElem? (i := 639) (by decide +kernel), List.mem_of_getElem? (i := 640) (by decide +kernel)⟩
theorem lw_p25 : lw_okq (⟨"HillHouses", "comesSo", "(II)Z"⟩, 8) := ⟨⟨by decide +kernel, by decide +kernel⟩, List.mem_of_getElem? (i := 17) (by decide +kernel), List.mem_of_getElem? (i := 673) (by decide +kernel), List.mem_of_getElem? (i := 674) (by decide +kernel)⟩
theorem lw_p26 : lw_okq (⟨"HillHouses$Asker", "askAnew", "(LHillHouses$Slope;III)I"⟩, 2) := ⟨⟨by decide +kernel, by decide +kernel⟩, List.mem_of_getElem? (i := 93) (by decide +kernel), List.mem_of_getElem? (i := 714) (by decide +kernel), List.mem_of_getElem? (i := 715) (by decide +kernel)⟩
theorem lw_p27 : lw_okq (⟨"HillHouses$Asker", "give", "(LHillHouses$Slope;III)I"⟩, 2) := ⟨⟨by decide +kernel, by decide +kernel⟩, List.mem_of_getElem? (i := 93) (by decide +kernel), List.mem_of_getElem? (i := 726) (by decide +kernel), List.mem_of_getElem? (i := 727) (by decide +kernel)⟩
theorem lw_p28 : lw_okq (⟨"HillHouses$Asker", "leaveInTrace", "(I)V"⟩, 2) := ⟨⟨by decide +kernel, by decide +kernel⟩, List.mem_of_getElem? (i := 93) (by decide +kernel), List.mem_of_getElem? (i := 730) (by decide +kernel), List.mem_of_getElem? (i := 731) (by decide +kernel)⟩
theorem lw_p29 : lw_okq (⟨"HillHousesModel", "finding", "(I)I"⟩, 26) := ⟨⟨by decide +kernel, by decide +kernel⟩, List.mem_of_getElem? (i := 772) (by decide +kernel), List.mem_of_getElem? (i := 871) (by decide +kernel), List.mem_of_getElem? (i := 872) (by decide +kernel)⟩
theorem lw_p30 : lw_okq (⟨"HillHousesModel", "begin", "()V"⟩, 26) := ⟨⟨by decide +kernel, by decide +kernel⟩, List.mem_of_getElem? (i := 772) (by decide +kernel), List.mem_of_getElem? (i := 899) (by decide +kernel), List.mem_of_getElem? (i := 900) (by decide +kernel)⟩
theorem lw_p31 : lw_okq (⟨"HillHousesModel", "next", "()V"⟩, 26) := ⟨⟨by decide +kernel, by decide +kernel⟩, List.mem_of_getElem? (i := 772) (by decide +kernel), List.mem_of_getElem? (i := 903) (by decide +kernel), List.mem_of_getElem? (i := 904) (by decide +kernel)⟩
def lw_privs_2 : List (MethodName × Nat) := [(⟨"HillHouses$Slope", "lineUp", "()V"⟩, 14), (⟨"HillHouses$Slope", "mayRoll", "(I)Z"⟩, 14), (⟨"HillHouses$Slope", "wasAloneInYard", "(I)Z"⟩, 14), (⟨"HillHouses$Slope", "roll", "(I)Z"⟩, 14), (⟨"HillHouses$Slope", "lendHands", "(I)V"⟩, 14), (⟨"HillHouses", "chockAsAct", "(II)I"⟩, 8), (⟨"HillHouses", "rollTrial", "(I)V"⟩, 8), (⟨"HillHouses", "isPair", "(II)Z"⟩, 8), (⟨"HillHouses", "meetsBy", "(IIIII)Z"⟩, 8), (⟨"HillHouses", "comesSo", "(II)Z"⟩, 8), (⟨"HillHouses$Asker", "askAnew", "(LHillHouses$Slope;III)I"⟩, 2), (⟨"HillHouses$Asker", "give", "(LHillHouses$Slope;III)I"⟩, 2), (⟨"HillHouses$Asker", "leaveInTrace", "(I)V"⟩, 2), (⟨"HillHousesModel", "finding", "(I)I"⟩, 26), (⟨"HillHousesModel", "begin", "()V"⟩, 26), (⟨"HillHousesModel", "next", "()V"⟩, 26)]
theorem lw_r2 : ∀ q ∈ lw_privs_2, lw_okq q := List.forall_mem_cons.mpr ⟨lw_p16, List.forall_mem_cons.mpr ⟨lw_p17, List.forall_mem_cons.mpr ⟨lw_p18, List.forall_mem_cons.mpr ⟨lw_p19, List.forall_mem_cons.mpr ⟨lw_p20, List.forall_mem_cons.mpr ⟨lw_p21, List.forall_mem_cons.mpr ⟨lw_p22, List.forall_mem_cons.mpr ⟨lw_p23, List.forall_mem_cons.mpr ⟨lw_p24, List.forall_mem_cons.mpr ⟨lw_p25, List.forall_mem_cons.mpr ⟨lw_p26, List.forall_mem_cons.mpr ⟨lw_p27, List.forall_mem_cons.mpr ⟨lw_p28, List.forall_mem_cons.mpr ⟨lw_p29, List.forall_mem_cons.mpr ⟨lw_p30, List.forall_mem_cons.mpr ⟨lw_p31, fun _ h => absurd h List.not_mem_nil⟩⟩⟩⟩⟩⟩⟩⟩⟩⟩⟩⟩⟩⟩⟩⟩
theorem lw_p32 : lw_okq (⟨"HillHousesModel", "byteAt", "(I)I"⟩, 26) := ⟨⟨by decide +kernel, by decide +kernel⟩, List.mem_of_getElem? (i := 772) (by decide +kernel), List.mem_of_getElem? (i := 907) (by decide +kernel), List.mem_of_getElem? (i := 908) (by decide +kernel)⟩
theorem lw_p33 : lw_okq (⟨"HillHousesModel", "name", "()J"⟩, 26) := ⟨⟨by decide +kernel, by decide +kernel⟩, List.mem_of_getElem? (i := 772) (by decide +kernel), List.mem_of_getElem? (i := 918) (by decide +kernel), List.mem_of_getElem? (i := 919) (by decide +kernel)⟩
theorem lw_p34 : lw_okq (⟨"HillHousesModel", "must", "(Z)V"⟩, 26) := ⟨⟨by decide +kernel, by decide +kernel⟩, List.mem_of_getElem? (i := 772) (by decide +kernel), List.mem_of_getElem? (i := 923) (by decide +kernel), List.mem_of_getElem? (i := 924) (by decide +kernel)⟩
theorem lw_p35 : lw_okq (⟨"HillHousesModel", "bad", "(I)V"⟩, 26) := ⟨⟨by decide +kernel, by decide +kernel⟩, List.mem_of_getElem? (i := 772) (by decide +kernel), List.mem_of_getElem? (i := 927) (by decide +kernel), List.mem_of_getElem? (i := 928) (by decide +kernel)⟩
theorem lw_p36 : lw_okq (⟨"HillHousesModel", "number", "(II)I"⟩, 26) := ⟨⟨by decide +kernel, by decide +kernel⟩, List.mem_of_getElem? (i := 772) (by decide +kernel), List.mem_of_getElem? (i := 931) (by decide +kernel), List.mem_of_getElem? (i := 932) (by decide +kernel)⟩
theorem lw_p37 : lw_okq (⟨"HillHousesModel", "figures", "()I"⟩, 26) := ⟨⟨by decide +kernel, by decide +kernel⟩, List.mem_of_getElem? (i := 772) (by decide +kernel), List.mem_of_getElem? (i := 935) (by decide +kernel), List.mem_of_getElem? (i := 936) (by decide +kernel)⟩
theorem lw_p38 : lw_okq (⟨"HillHousesModel", "mustEnd", "()V"⟩, 26) := ⟨⟨by decide +kernel, by decide +kernel⟩, List.mem_of_getElem? (i := 772) (by decide +kernel), List.mem_of_getElem? (i := 939) (by decide +kernel), List.mem_of_getElem? (i := 940) (by decide +kernel)⟩
theorem lw_p39 : lw_okq (⟨"HillHousesModel", "readStone", "()V"⟩, 26) := ⟨⟨by decide +kernel, by decide +kernel⟩, List.mem_of_getElem? (i := 772) (by decide +kernel), List.mem_of_getElem? (i := 944) (by decide +kernel), List.mem_of_getElem? (i := 945) (by decide +kernel)⟩
theorem lw_p40 : lw_okq (⟨"HillHousesModel", "begins", "(II)V"⟩, 26) := ⟨⟨by decide +kernel, by decide +kernel⟩, List.mem_of_getElem? (i := 772) (by decide +kernel), List.mem_of_getElem? (i := 948) (by decide +kernel), List.mem_of_getElem? (i := 949) (by decide +kernel)⟩
theorem lw_p41 : lw_okq (⟨"HillHousesModel", "readHouse", "()V"⟩, 26) := ⟨⟨by decide +kernel, by decide +kernel⟩, List.mem_of_getElem? (i := 772) (by decide +kernel), List.mem_of_getElem? (i := 953) (by decide +kernel), List.mem_of_getElem? (i := 954) (by decide +kernel)⟩
theorem lw_p42 : lw_okq (⟨"HillHousesModel", "isTaken", "(II)Z"⟩, 26) := ⟨⟨by decide +kernel, by decide +kernel⟩, List.mem_of_getElem? (i := 772) (by decide +kernel), List.mem_of_getElem? (i := 965) (by decide +kernel), List.mem_of_getElem? (i := 966) (by decide +kernel)⟩
theorem lw_p43 : lw_okq (⟨"HillHousesModel", "isThere", "()Z"⟩, 26) := ⟨⟨by decide +kernel, by decide +kernel⟩, List.mem_of_getElem? (i := 772) (by decide +kernel), List.mem_of_getElem? (i := 978) (by decide +kernel), List.mem_of_getElem? (i := 979) (by decide +kernel)⟩
theorem lw_p44 : lw_okq (⟨"HillHousesModel", "keep", "()V"⟩, 26) := ⟨⟨by decide +kernel, by decide +kernel⟩, List.mem_of_getElem? (i := 772) (by decide +kernel), List.mem_of_getElem? (i := 983) (by decide +kernel), List.mem_of_getElem? (i := 984) (by decide +kernel)⟩
theorem lw_p45 : lw_okq (⟨"HillHousesModel", "layNow", "()V"⟩, 26) := ⟨⟨by decide +kernel, by decide +kernel⟩, List.mem_of_getElem? (i := 772) (by decide +kernel), List.mem_of_getElem? (i := 987) (by decide +kernel), List.mem_of_getElem? (i := 988) (by decide +kernel)⟩
theorem lw_p46 : lw_okq (⟨"HillHousesModel", "of", "(II)I"⟩, 26) := ⟨⟨by decide +kernel, by decide +kernel⟩, List.mem_of_getElem? (i := 772) (by decide +kernel), List.mem_of_getElem? (i := 991) (by decide +kernel), List.mem_of_getElem? (i := 992) (by decide +kernel)⟩
theorem lw_p47 : lw_okq (⟨"HillHousesModel", "goWinter", "(I)V"⟩, 26) := ⟨⟨by decide +kernel, by decide +kernel⟩, List.mem_of_getElem? (i := 772) (by decide +kernel), List.mem_of_getElem? (i := 995) (by decide +kernel), List.mem_of_getElem? (i := 996) (by decide +kernel)⟩
def lw_privs_3 : List (MethodName × Nat) := [(⟨"HillHousesModel", "byteAt", "(I)I"⟩, 26), (⟨"HillHousesModel", "name", "()J"⟩, 26), (⟨"HillHousesModel", "must", "(Z)V"⟩, 26), (⟨"HillHousesModel", "bad", "(I)V"⟩, 26), (⟨"HillHousesModel", "number", "(II)I"⟩, 26), (⟨"HillHousesModel", "figures", "()I"⟩, 26), (⟨"HillHousesModel", "mustEnd", "()V"⟩, 26), (⟨"HillHousesModel", "readStone", "()V"⟩, 26), (⟨"HillHousesModel", "begins", "(II)V"⟩, 26), (⟨"HillHousesModel", "readHouse", "()V"⟩, 26), (⟨"HillHousesModel", "isTaken", "(II)Z"⟩, 26), (⟨"HillHousesModel", "isThere", "()Z"⟩, 26), (⟨"HillHousesModel", "keep", "()V"⟩, 26), (⟨"HillHousesModel", "layNow", "()V"⟩, 26), (⟨"HillHousesModel", "of", "(II)I"⟩, 26), (⟨"HillHousesModel", "goWinter", "(I)V"⟩, 26)]
theorem lw_r3 : ∀ q ∈ lw_privs_3, lw_okq q := List.forall_mem_cons.mpr ⟨lw_p32, List.forall_mem_cons.mpr ⟨lw_p33, List.forall_mem_cons.mpr ⟨lw_p34, List.forall_mem_cons.mpr ⟨lw_p35, List.forall_mem_cons.mpr ⟨lw_p36, List.forall_mem_cons.mpr ⟨lw_p37, List.forall_mem_cons.mpr ⟨lw_p38, List.forall_mem_cons.mpr ⟨lw_p39, List.forall_mem_cons.mpr ⟨lw_p40, List.forall_mem_cons.mpr ⟨lw_p41, List.forall_mem_cons.mpr ⟨lw_p42, List.forall_mem_cons.mpr ⟨lw_p43, List.forall_mem_cons.mpr ⟨lw_p44, List.forall_mem_cons.mpr ⟨lw_p45, List.forall_mem_cons.mpr ⟨lw_p46, List.forall_mem_cons.mpr ⟨lw_p47, fun _ h => absurd h List.not_mem_nil⟩⟩⟩⟩⟩⟩⟩⟩⟩⟩⟩⟩⟩⟩⟩⟩
theorem lw_p48 : lw_okq (⟨"HillHousesModel", "goHouse", "(II)V"⟩, 26) := ⟨⟨by decide +kernel, by decide +kernel⟩, List.mem_of_getElem? (i := 772) (by decide +kernel), List.mem_of_getElem? (i := 999) (by decide +kernel), List.mem_of_getElem? (i := 1000) (by decide +kernel)⟩
theorem lw_p49 : lw_okq (⟨"HillHousesModel", "isAlone", "(I)Z"⟩, 26) := ⟨⟨by decide +kernel, by decide +kernel⟩, List.mem_of_getElem? (i := 772) (by decide +kernel), List.mem_of_getElem? (i := 1003) (by decide +kernel), List.mem_of_getElem? (i := 1004) (by decide +kernel)⟩
theorem lw_p50 : lw_okq (⟨"HillHousesModel", "roll", "(I)V"⟩, 26) := ⟨⟨by decide +kernel, by decide +kernel⟩, List.mem_of_getElem? (i := 772) (by decide +kernel), List.mem_of_getElem? (i := 1007) (by decide +kernel), List.mem_of_getElem? (i := 1008) (by decide +kernel)⟩
theorem lw_p51 : lw_okq (⟨"HillHousesModel", "isStone", "(II)Z"⟩, 26) := ⟨⟨by decide +kernel, by decide +kernel⟩, List.mem_of_getElem? (i := 772) (by decide +kernel), List.mem_of_getElem? (i := 1011) (by decide +kernel), List.mem_of_getElem? (i := 1012) (by decide +kernel)⟩
theorem lw_p52 : lw_okq (⟨"HillHousesModel", "houseAt", "(II)I"⟩, 26) := ⟨⟨by decide +kernel, by decide +kernel⟩, List.mem_of_getElem? (i := 772) (by decide +kernel), List.mem_of_getElem? (i := 1015) (by decide +kernel), List.mem_of_getElem? (i := 1016) (by decide +kernel)⟩
theorem lw_p53 : lw_okq (⟨"HillHousesModel", "isHouse", "(I)Z"⟩, 26) := ⟨⟨by decide +kernel, by decide +kernel⟩, List.mem_of_getElem? (i := 772) (by decide +kernel), List.mem_of_getElem? (i := 1023) (by decide +kernel), List.mem_of_getElem? (i := 1024) (by decide +kernel)⟩
theorem lw_p54 : lw_okq (⟨"HillHousesModel", "becomes", "(II)I"⟩, 26) := ⟨⟨by decide +kernel, by decide +kernel⟩, List.mem_of_getElem? (i := 772) (by decide +kernel), List.mem_of_getElem? (i := 1031) (by decide +kernel), List.mem_of_getElem? (i := 1032) (by decide +kernel)⟩
theorem lw_p55 : lw_okq (⟨"HillHousesModel", "viewOf", "(I)I"⟩, 26) := ⟨⟨by decide +kernel, by decide +kernel⟩, List.mem_of_getElem? (i := 772) (by decide +kernel), List.mem_of_getElem? (i := 1049) (by decide +kernel), List.mem_of_getElem? (i := 1050) (by decide +kernel)⟩
theorem lw_p56 : lw_okq (⟨"HillHousesModel", "layAhead", "(I)V"⟩, 26) := ⟨⟨by decide +kernel, by decide +kernel⟩, List.mem_of_getElem? (i := 772) (by decide +kernel), List.mem_of_getElem? (i := 1062) (by decide +kernel), List.mem_of_getElem? (i := 1063) (by decide +kernel)⟩
theorem lw_p57 : lw_okq (⟨"HillHousesModel", "areTwo", "(II)Z"⟩, 26) := ⟨⟨by decide +kernel, by decide +kernel⟩, List.mem_of_getElem? (i := 772) (by decide +kernel), List.mem_of_getElem? (i := 1074) (by decide +kernel), List.mem_of_getElem? (i := 1075) (by decide +kernel)⟩
theorem lw_p58 : lw_okq (⟨"HillHousesModel", "areBeside", "(II)Z"⟩, 26) := ⟨⟨by decide +kernel, by decide +kernel⟩, List.mem_of_getElem? (i := 772) (by decide +kernel), List.mem_of_getElem? (i := 1078) (by decide +kernel), List.mem_of_getElem? (i := 1079) (by decide +kernel)⟩
theorem lw_p59 : lw_okq (⟨"HillHousesModel", "meetsBy", "(IIIII)Z"⟩, 26) := ⟨⟨by decide +kernel, by decide +kernel⟩, List.mem_of_getElem? (i := 772) (by decide +kernel), List.mem_of_getElem? (i := 1087) (by decide +kernel), List.mem_of_getElem? (i := 1088) (by decide +kernel)⟩
theorem lw_p60 : lw_okq (⟨"HillHousesModel", "aloneTo", "(IIII)I"⟩, 26) := ⟨⟨by decide +kernel, by decide +kernel⟩, List.mem_of_getElem? (i := 772) (by decide +kernel), List.mem_of_getElem? (i := 1099) (by decide +kernel), List.mem_of_getElem? (i := 1100) (by decide +kernel)⟩
theorem lw_p61 : lw_okq (⟨"HillHousesModel", "comesSo", "(II)Z"⟩, 26) := ⟨⟨by decide +kernel, by decide +kernel⟩, List.mem_of_getElem? (i := 772) (by decide +kernel), List.mem_of_getElem? (i := 1107) (by decide +kernel), List.mem_of_getElem? (i := 1108) (by decide +kernel)⟩
theorem lw_p62 : lw_okq (⟨"HillHousesModel", "sizeOf", "(I)I"⟩, 26) := ⟨⟨by decide +kernel, by decide +kernel⟩, List.mem_of_getElem? (i := 772) (by decide +kernel), List.mem_of_getElem? (i := 1134) (by decide +kernel), List.mem_of_getElem? (i := 1135) (by decide +kernel)⟩
theorem lw_p63 : lw_okq (⟨"HillHousesModel", "churchSize", "(I)I"⟩, 26) := ⟨⟨by decide +kernel, by decide +kernel⟩, List.mem_of_getElem? (i := 772) (by decide +kernel), List.mem_of_getElem? (i := 1138) (by decide +kernel), List.mem_of_getElem? (i := 1139) (by decide +kernel)⟩
def lw_privs_4 : List (MethodName × Nat) := [(⟨"HillHousesModel", "goHouse", "(II)V"⟩, 26), (⟨"HillHousesModel", "isAlone", "(I)Z"⟩, 26), (⟨"HillHousesModel", "roll", "(I)V"⟩, 26), (⟨"HillHousesModel", "isStone", "(II)Z"⟩, 26), (⟨"HillHousesModel", "houseAt", "(II)I"⟩, 26), (⟨"HillHousesModel", "isHouse", "(I)Z"⟩, 26), (⟨"HillHousesModel", "becomes", "(II)I"⟩, 26), (⟨"HillHousesModel", "viewOf", "(I)I"⟩, 26), (⟨"HillHousesModel", "layAhead", "(I)V"⟩, 26), (⟨"HillHousesModel", "areTwo", "(II)Z"⟩, 26), (⟨"HillHousesModel", "areBeside", "(II)Z"⟩, 26), (⟨"HillHousesModel", "meetsBy", "(IIIII)Z"⟩, 26), (⟨"HillHousesModel", "aloneTo", "(IIII)I"⟩, 26), (⟨"HillHousesModel", "comesSo", "(II)Z"⟩, 26), (⟨"HillHousesModel", "sizeOf", "(I)I"⟩, 26), (⟨"HillHousesModel", "churchSize", "(I)I"⟩, 26)]
theorem lw_r4 : ∀ q ∈ lw_privs_4, lw_okq q := List.forall_mem_cons.mpr ⟨lw_p48, List.forall_mem_cons.mpr ⟨lw_p49, List.forall_mem_cons.mpr ⟨lw_p50, List.forall_mem_cons.mpr ⟨lw_p51, List.forall_mem_cons.mpr ⟨lw_p52, List.forall_mem_cons.mpr ⟨lw_p53, List.forall_mem_cons.mpr ⟨lw_p54, List.forall_mem_cons.mpr ⟨lw_p55, List.forall_mem_cons.mpr ⟨lw_p56, List.forall_mem_cons.mpr ⟨lw_p57, List.forall_mem_cons.mpr ⟨lw_p58, List.forall_mem_cons.mpr ⟨lw_p59, List.forall_mem_cons.mpr ⟨lw_p60, List.forall_mem_cons.mpr ⟨lw_p61, List.forall_mem_cons.mpr ⟨lw_p62, List.forall_mem_cons.mpr ⟨lw_p63, fun _ h => absurd h List.not_mem_nil⟩⟩⟩⟩⟩⟩⟩⟩⟩⟩⟩⟩⟩⟩⟩⟩
theorem lw_p64 : lw_okq (⟨"HillHousesModel", "began", "(I)V"⟩, 26) := ⟨⟨by decide +kernel, by decide +kernel⟩, List.mem_of_getElem? (i := 772) (by decide +kernel), List.mem_of_getElem? (i := 1142) (by decide +kernel), List.mem_of_getElem? (i := 1143) (by decide +kernel)⟩
theorem lw_p65 : lw_okq (⟨"HillHousesModel", "plainSize", "(I)I"⟩, 26) := ⟨⟨by decide +kernel, by decide +kernel⟩, List.mem_of_getElem? (i := 772) (by decide +kernel), List.mem_of_getElem? (i := 1146) (by decide +kernel), List.mem_of_getElem? (i := 1147) (by decide +kernel)⟩
theorem lw_p66 : lw_okq (⟨"HillHousesModel", "markOf", "(I)I"⟩, 26) := ⟨⟨by decide +kernel, by decide +kernel⟩, List.mem_of_getElem? (i := 772) (by decide +kernel), List.mem_of_getElem? (i := 1150) (by decide +kernel), List.mem_of_getElem? (i := 1151) (by decide +kernel)⟩
def lw_privs_5 : List (MethodName × Nat) := [(⟨"HillHousesModel", "began", "(I)V"⟩, 26), (⟨"HillHousesModel", "plainSize", "(I)I"⟩, 26), (⟨"HillHousesModel", "markOf", "(I)I"⟩, 26)]
theorem lw_r5 : ∀ q ∈ lw_privs_5, lw_okq q := List.forall_mem_cons.mpr ⟨lw_p64, List.forall_mem_cons.mpr ⟨lw_p65, List.forall_mem_cons.mpr ⟨lw_p66, fun _ h => absurd h List.not_mem_nil⟩⟩⟩
def lw_privs : List (MethodName × Nat) := lw_privs_1 ++ (lw_privs_2 ++ (lw_privs_3 ++ (lw_privs_4 ++ (lw_privs_5))))
def lw_tbl : List Cond := k2_sels lw_privs ++ tables_1
theorem lw_privs_ok : ∀ q ∈ lw_privs, lw_okq q := by
  show ∀ q ∈ lw_privs_1 ++ (lw_privs_2 ++ (lw_privs_3 ++ (lw_privs_4 ++ (lw_privs_5)))), lw_okq q
  exact List.forall_mem_append.mpr ⟨lw_r1, List.forall_mem_append.mpr ⟨lw_r2, List.forall_mem_append.mpr ⟨lw_r3, List.forall_mem_append.mpr ⟨lw_r4, lw_r5⟩⟩⟩⟩
end
section
/-! the small machine: the tables (printed by wip/whole/gen02.py out of the claim's own listing) -/
def pm_cnl : List String := ["HillHouses$Acts", "HillHouses$Asker", "HillHouses$Rows", "HillHouses$Slope", "HillHouses$Tape", "HillHouses", "HillHousesModel", "HillHousesLaw", "java/lang/Integer", "java/lang/Math", "java/lang/String", "java/lang/StringLatin1", "java/util/Arrays", "jdk/internal/util/Preconditions"]
def pm_cn (c : Nat) : String := (pm_cnl[c]?).getD ""
def pm_T0 : u_T := fun k => match k with
  | 0 => ("HillHouses$Acts", "kept", "[I", true)
  | 1 => ("HillHouses$Acts", "oldest", "I", false)
  | _ => ("HillHouses$Acts", "size", "I", false)
def pm_T1 : u_T := fun k => match k with
  | 0 => ("HillHouses$Asker", "begun", "[I", true)
  | _ => ("HillHouses$Asker", "size", "I", false)
def pm_T2 : u_T := fun k => match k with
  | 0 => ("HillHouses$Rows", "items", "[I", true)
  | 1 => ("HillHouses$Rows", "lanes", "[I", true)
  | 2 => ("HillHouses$Rows", "sizes", "[I", true)
  | _ => ("HillHouses$Rows", "present", "I", false)
def pm_T3 : u_T := fun k => match k with
  | 0 => ("HillHouses$Slope", "lanes", "I", false)
  | 1 => ("HillHouses$Slope", "deep", "I", false)
  | 2 => ("HillHouses$Slope", "houses", "I", false)
  | 3 => ("HillHouses$Slope", "winter", "I", false)
  | 4 => ("HillHouses$Slope", "chocked", "I", false)
  | 5 => ("HillHouses$Slope", "stones", "[I", true)
  | 6 => ("HillHouses$Slope", "kindOf", "[I", true)
  | 7 => ("HillHouses$Slope", "heavyOf", "[I", true)
  | 8 => ("HillHouses$Slope", "laneOf", "[I", true)
  | 9 => ("HillHouses$Slope", "yardOf", "[I", true)
  | 10 => ("HillHouses$Slope", "lentOf", "[I", true)
  | 11 => ("HillHouses$Slope", "begunOf", "[I", true)
  | 12 => ("HillHouses$Slope", "turns", "[I", true)
  | _ => ("HillHouses$Slope", "taken", "[I", true)
def pm_T4 : u_T := fun k => match k with
  | 0 => ("HillHouses$Tape", "bytes", "[B", true)
  | 1 => ("HillHouses$Tape", "size", "I", false)
  | 2 => ("HillHouses$Tape", "form", "I", false)
  | 3 => ("HillHouses$Tape", "from", "I", false)
  | 4 => ("HillHouses$Tape", "to", "I", false)
  | 5 => ("HillHouses$Tape", "number", "I", false)
  | 6 => ("HillHouses$Tape", "fault", "I", false)
  | _ => ("HillHouses$Tape", "place", "I", false)
def pm_T5 : u_T := fun k => match k with
  | 0 => ("HillHouses", "rows", "LHillHouses$Rows;", true)
  | 1 => ("HillHouses", "tape", "LHillHouses$Tape;", true)
  | 2 => ("HillHouses", "acts", "LHillHouses$Acts;", true)
  | 3 => ("HillHouses", "asker", "LHillHouses$Asker;", true)
  | 4 => ("HillHouses", "now", "LHillHouses$Slope;", true)
  | 5 => ("HillHouses", "trial", "LHillHouses$Slope;", true)
  | 6 => ("HillHouses", "images", "[LHillHouses$Slope;", true)
  | _ => ("HillHouses", "finding", "I", false)
def pm_T6 : u_T := fun k => match k with
  | 0 => ("HillHousesModel", "thrown", "I", false)
  | 1 => ("HillHousesModel", "status", "I", false)
  | 2 => ("HillHousesModel", "lane", "[I", true)
  | 3 => ("HillHousesModel", "many", "[I", true)
  | 4 => ("HillHousesModel", "item", "[I", true)
  | 5 => ("HillHousesModel", "hill", "[I", true)
  | 6 => ("HillHousesModel", "fresh", "[I", true)
  | 7 => ("HillHousesModel", "was", "[I", true)
  | 8 => ("HillHousesModel", "acts", "I", false)
  | 9 => ("HillHousesModel", "tape", "[I", true)
  | 10 => ("HillHousesModel", "taped", "I", false)
  | 11 => ("HillHousesModel", "latest", "I", false)
  | 12 => ("HillHousesModel", "length", "I", false)
  | 13 => ("HillHousesModel", "cursor", "I", false)
  | 14 => ("HillHousesModel", "token", "I", false)
  | 15 => ("HillHousesModel", "start", "I", false)
  | 16 => ("HillHousesModel", "till", "I", false)
  | 17 => ("HillHousesModel", "fault", "I", false)
  | 18 => ("HillHousesModel", "faultAt", "I", false)
  | 19 => ("HillHousesModel", "place", "[I", true)
  | 20 => ("HillHousesModel", "held", "[I", true)
  | 21 => ("HillHousesModel", "begun", "[I", true)
  | 22 => ("HillHousesModel", "isKept", "[Z", true)
  | 23 => ("HillHousesModel", "kept", "[I", true)
  | 24 => ("HillHousesModel", "trace", "[I", true)
  | _ => ("HillHousesModel", "traced", "I", false)
abbrev pm_cl : List vw_C := [("HillHouses$Acts", pm_T0, 3), ("HillHouses$Asker", pm_T1, 2), ("HillHouses$Rows", pm_T2, 4), ("HillHouses$Slope", pm_T3, 14), ("HillHouses$Tape", pm_T4, 8), ("HillHouses", pm_T5, 8), ("HillHousesModel", pm_T6, 26)]
def pm_nf (c : Nat) : Nat := ([3, 2, 4, 14, 8, 8, 26][c]?).getD 0
/-- which fields hold references -/
def pm_rfl : List (List Bool) := [[true, false, false], [true, false], [true, true, true, false], [false, false, false, false, false, true, true, true, true, true, true, true, true, true], [true, false, false, false, false, false, false, false], [true, true, true, true, true, true, true, false], [false, false, true, true, true, true, true, true, false, true, false, false, false, false, false, false, false, false, false, true, true, true, true, true, true, false]]
def pm_rf (c k : Nat) : Bool := (((pm_rfl[c]?).getD [])[k]?).getD false
def pm_ffl : List (List Bool) := [[true, false, false], [true, false], [true, true, true, false], [false, false, false, false, false, true, true, true, true, true, true, true, true, true], [true, false, false, false, false, false, false, false], [true, true, true, true, true, true, true, false], [false, false, true, true, true, true, true, true, false, true, false, false, false, false, false, false, false, false, false, true, true, true, true, true, true, false]]
def pm_ff (c k : Nat) : Bool := (((pm_ffl[c]?).getD [])[k]?).getD false
def pm_sb : List (List Int32) := [[115, 108, 111, 112, 101], [115, 116, 111, 110, 101], [104, 111, 117, 115, 101], [99, 104, 117, 114, 99, 104], [98, 97, 114, 110], [105, 110, 110], [109, 105, 108, 108], [104, 117, 116]]
def pm_stx : List (Nat × String) := [(60, "slope"), (39, "stone"), (52, "house"), (108, "church"), (110, "barn"), (112, "inn"), (114, "mill"), (116, "hut")]
def pm_tb : List (String × List Int32) := [("PARENT", [0, 0, 1, 0, 3, 3]), ("SIZE_BODY", [10, 13, 14, 11, 12, 0]), ("MARK_BODY", [20, 23, 0, 21, 24, 22])]
/-- methods: class, name, bytes, locals, what comes back, kind (0 of an object, 1 static, 2 constructor), the places of its words: code, instanceMethod or static, initialized, selects -/
abbrev pm_ME : Type := Nat × MethodName × ByteArray × Nat × Option FieldType × Nat × Nat × Nat × Nat × Nat
def pm_mt0 : List pm_ME := [(0, ⟨"HillHouses$Acts", "<init>", "()V"⟩, prog_2_method_1_code, 1, none, 2, 147, 146, 71, 0),
  (0, ⟨"HillHouses$Acts", "size", "()I"⟩, prog_2_method_2_code, 1, some .int, 0, 644, 642, 71, 643),
  (0, ⟨"HillHouses$Acts", "forget", "()V"⟩, prog_2_method_3_code, 1, none, 0, 531, 529, 71, 530),
  (0, ⟨"HillHouses$Acts", "keep", "(LHillHouses$Slope;)V"⟩, prog_2_method_4_code, 2, none, 0, 560, 558, 71, 559),
  (0, ⟨"HillHouses$Acts", "takeBack", "(LHillHouses$Slope;)Z"⟩, prog_2_method_5_code, 2, some .boolean, 0, 636, 634, 71, 635),
  (1, ⟨"HillHouses$Asker", "<init>", "()V"⟩, prog_3_method_1_code, 1, none, 2, 163, 162, 72, 0),
  (1, ⟨"HillHouses$Asker", "isSuch", "(II)Z"⟩, prog_3_method_2_code, 4, some .boolean, 1, 765, 764, 72, 0),
  (1, ⟨"HillHouses$Asker", "parentOf", "(I)I"⟩, prog_3_method_3_code, 1, some .int, 1, 770, 769, 72, 0),
  (1, ⟨"HillHouses$Asker", "bodyFor", "(II)I"⟩, prog_3_method_4_code, 5, some .int, 1, 787, 786, 72, 0),
  (1, ⟨"HillHouses$Asker", "traceAt", "(I)I"⟩, prog_3_method_5_code, 2, some .int, 0, 809, 807, 72, 808),
  (1, ⟨"HillHouses$Asker", "answer", "(LHillHouses$Slope;II)I"⟩, prog_3_method_6_code, 4, some .int, 0, 779, 777, 72, 778),
  (1, ⟨"HillHouses$Asker", "askAnew", "(LHillHouses$Slope;III)I"⟩, prog_3_method_7_code, 5, some .int, 0, 783, 782, 72, 26),
  (1, ⟨"HillHouses$Asker", "give", "(LHillHouses$Slope;III)I"⟩, prog_3_method_8_code, 6, some .int, 0, 795, 794, 72, 27),
  (1, ⟨"HillHouses$Asker", "leaveInTrace", "(I)V"⟩, prog_3_method_9_code, 2, none, 0, 799, 798, 72, 28),
  (2, ⟨"HillHouses$Rows", "<init>", "()V"⟩, prog_4_method_1_code, 1, none, 2, 95, 94, 69, 0),
  (2, ⟨"HillHouses$Rows", "isMissing", "(I)Z"⟩, prog_4_method_2_code, 2, some .boolean, 0, 280, 278, 69, 279),
  (2, ⟨"HillHouses$Rows", "hasPlaces", "(III)Z"⟩, prog_4_method_3_code, 4, some .boolean, 0, 284, 282, 69, 283),
  (2, ⟨"HillHouses$Rows", "laneOf", "(I)I"⟩, prog_4_method_4_code, 2, some .int, 0, 302, 300, 69, 301),
  (2, ⟨"HillHouses$Rows", "itemAt", "(II)I"⟩, prog_4_method_5_code, 3, some .int, 0, 628, 626, 69, 627),
  (2, ⟨"HillHouses$Rows", "size", "()I"⟩, prog_4_method_6_code, 1, some .int, 0, 818, 816, 69, 817),
  (2, ⟨"HillHouses$Rows", "make", "(III)V"⟩, prog_4_method_7_code, 5, none, 0, 266, 264, 69, 265),
  (2, ⟨"HillHouses$Rows", "put", "(III)I"⟩, prog_4_method_8_code, 5, some .int, 0, 289, 287, 69, 288),
  (2, ⟨"HillHouses$Rows", "move", "(IIIII)V"⟩, prog_4_method_9_code, 6, none, 0, 306, 304, 69, 305),
  (2, ⟨"HillHouses$Rows", "remove", "(I)I"⟩, prog_4_method_10_code, 2, some .int, 0, 317, 315, 69, 316),
  (2, ⟨"HillHouses$Rows", "cut", "(II)I"⟩, prog_4_method_11_code, 2, some .int, 1, 294, 293, 69, 0),
  (3, ⟨"HillHouses$Slope", "<init>", "()V"⟩, prog_5_method_1_code, 1, none, 2, 176, 175, 73, 0),
  (3, ⟨"HillHouses$Slope", "stands", "()Z"⟩, prog_5_method_2_code, 1, some .boolean, 0, 551, 549, 73, 550),
  (3, ⟨"HillHouses$Slope", "laneCount", "()I"⟩, prog_5_method_3_code, 1, some .int, 0, 453, 451, 73, 452),
  (3, ⟨"HillHouses$Slope", "yardCount", "()I"⟩, prog_5_method_4_code, 1, some .int, 0, 457, 455, 73, 456),
  (3, ⟨"HillHouses$Slope", "houseCount", "()I"⟩, prog_5_method_5_code, 1, some .int, 0, 535, 533, 73, 534),
  (3, ⟨"HillHouses$Slope", "wintersGone", "()I"⟩, prog_5_method_6_code, 1, some .int, 0, 556, 554, 73, 555),
  (3, ⟨"HillHouses$Slope", "chockedCount", "()I"⟩, prog_5_method_7_code, 1, some .int, 0, 833, 831, 73, 832),
  (3, ⟨"HillHouses$Slope", "stoneCount", "()I"⟩, prog_5_method_8_code, 3, some .int, 0, 828, 826, 73, 827),
  (3, ⟨"HillHouses$Slope", "isLane", "(I)Z"⟩, prog_5_method_9_code, 2, some .boolean, 0, 465, 463, 73, 464),
  (3, ⟨"HillHouses$Slope", "isYard", "(I)Z"⟩, prog_5_method_10_code, 2, some .boolean, 0, 469, 467, 73, 468),
  (3, ⟨"HillHouses$Slope", "isHouse", "(I)Z"⟩, prog_5_method_11_code, 2, some .boolean, 0, 504, 502, 73, 503),
  (3, ⟨"HillHouses$Slope", "kindOf", "(I)I"⟩, prog_5_method_12_code, 2, some .int, 0, 758, 756, 73, 757),
  (3, ⟨"HillHouses$Slope", "heavyOf", "(I)I"⟩, prog_5_method_13_code, 2, some .int, 0, 607, 605, 73, 606),
  (3, ⟨"HillHouses$Slope", "laneOf", "(I)I"⟩, prog_5_method_14_code, 2, some .int, 0, 509, 507, 73, 508),
  (3, ⟨"HillHouses$Slope", "yardOf", "(I)I"⟩, prog_5_method_15_code, 2, some .int, 0, 500, 498, 73, 499)]
def pm_mt1 : List pm_ME := [(3, ⟨"HillHouses$Slope", "lentOf", "(I)I"⟩, prog_5_method_16_code, 2, some .int, 0, 655, 653, 73, 654),
  (3, ⟨"HillHouses$Slope", "isChocked", "(I)Z"⟩, prog_5_method_17_code, 2, some .boolean, 0, 580, 578, 73, 579),
  (3, ⟨"HillHouses$Slope", "areChocked", "(I)Z"⟩, prog_5_method_18_code, 2, some .boolean, 0, 738, 736, 73, 737),
  (3, ⟨"HillHouses$Slope", "isAtStream", "(I)Z"⟩, prog_5_method_19_code, 2, some .boolean, 0, 681, 679, 73, 680),
  (3, ⟨"HillHouses$Slope", "isStone", "(II)Z"⟩, prog_5_method_20_code, 3, some .boolean, 0, 496, 494, 73, 495),
  (3, ⟨"HillHouses$Slope", "findAt", "(II)I"⟩, prog_5_method_21_code, 4, some .int, 0, 492, 490, 73, 491),
  (3, ⟨"HillHouses$Slope", "viewOf", "(I)I"⟩, prog_5_method_22_code, 5, some .int, 0, 659, 657, 73, 658),
  (3, ⟨"HillHouses$Slope", "streetFrom", "(I)I"⟩, prog_5_method_23_code, 6, some .int, 0, 716, 714, 73, 715),
  (3, ⟨"HillHouses$Slope", "areBeside", "(II)Z"⟩, prog_5_method_24_code, 3, some .boolean, 0, 694, 692, 73, 693),
  (3, ⟨"HillHouses$Slope", "layOut", "(II)V"⟩, prog_5_method_25_code, 3, none, 0, 437, 435, 73, 436),
  (3, ⟨"HillHouses$Slope", "addStone", "(II)V"⟩, prog_5_method_26_code, 3, none, 0, 461, 459, 73, 460),
  (3, ⟨"HillHouses$Slope", "addHouse", "(IIII)V"⟩, prog_5_method_27_code, 5, none, 0, 513, 511, 73, 512),
  (3, ⟨"HillHouses$Slope", "takeFrom", "(LHillHouses$Slope;)V"⟩, prog_5_method_28_code, 2, none, 0, 526, 524, 73, 525),
  (3, ⟨"HillHouses$Slope", "writeTo", "([II)V"⟩, prog_5_method_29_code, 3, none, 0, 564, 562, 73, 563),
  (3, ⟨"HillHouses$Slope", "readFrom", "([II)V"⟩, prog_5_method_30_code, 3, none, 0, 640, 638, 73, 639),
  (3, ⟨"HillHouses$Slope", "putChock", "(IZ)V"⟩, prog_5_method_31_code, 3, none, 0, 620, 618, 73, 619),
  (3, ⟨"HillHouses$Slope", "bringToTop", "(II)I"⟩, prog_5_method_32_code, 3, some .int, 0, 599, 597, 73, 598),
  (3, ⟨"HillHouses$Slope", "lendHands", "(I)V"⟩, prog_5_method_33_code, 6, none, 0, 603, 602, 73, 20),
  (3, ⟨"HillHouses$Slope", "leaveAlone", "(I)V"⟩, prog_5_method_34_code, 2, none, 0, 725, 723, 73, 724),
  (3, ⟨"HillHouses$Slope", "beginAlone", "(II)V"⟩, prog_5_method_35_code, 3, none, 0, 730, 728, 73, 729),
  (3, ⟨"HillHouses$Slope", "rollAll", "()I"⟩, prog_5_method_36_code, 4, some .int, 0, 568, 566, 73, 567),
  (3, ⟨"HillHouses$Slope", "lineUp", "()V"⟩, prog_5_method_37_code, 4, none, 0, 572, 571, 73, 16),
  (3, ⟨"HillHouses$Slope", "mayRoll", "(I)Z"⟩, prog_5_method_38_code, 2, some .boolean, 0, 576, 575, 73, 17),
  (3, ⟨"HillHouses$Slope", "wasAloneInYard", "(I)Z"⟩, prog_5_method_39_code, 3, some .boolean, 0, 584, 583, 73, 18),
  (3, ⟨"HillHouses$Slope", "roll", "(I)Z"⟩, prog_5_method_40_code, 7, some .boolean, 0, 588, 587, 73, 19),
  (4, ⟨"HillHouses$Tape", "<init>", "()V"⟩, prog_6_method_1_code, 1, none, 2, 115, 114, 70, 0),
  (4, ⟨"HillHouses$Tape", "size", "()I"⟩, prog_6_method_2_code, 1, some .int, 0, 330, 328, 70, 329),
  (4, ⟨"HillHouses$Tape", "faultNumber", "()I"⟩, prog_6_method_3_code, 1, some .int, 0, 543, 541, 70, 542),
  (4, ⟨"HillHouses$Tape", "faultPlace", "()I"⟩, prog_6_method_4_code, 1, some .int, 0, 522, 520, 70, 521),
  (4, ⟨"HillHouses$Tape", "clear", "()V"⟩, prog_6_method_5_code, 1, none, 0, 517, 515, 70, 516),
  (4, ⟨"HillHouses$Tape", "add", "(JI)Z"⟩, prog_6_method_6_code, 5, some .boolean, 0, 325, 323, 70, 324),
  (4, ⟨"HillHouses$Tape", "readInto", "(LHillHouses$Slope;)Z"⟩, prog_6_method_7_code, 3, some .boolean, 0, 339, 337, 70, 338),
  (4, ⟨"HillHouses$Tape", "readSlope", "(LHillHouses$Slope;)Z"⟩, prog_6_method_8_code, 4, some .boolean, 0, 368, 367, 70, 6),
  (4, ⟨"HillHouses$Tape", "readStone", "(LHillHouses$Slope;)Z"⟩, prog_6_method_9_code, 4, some .boolean, 0, 449, 448, 70, 12),
  (4, ⟨"HillHouses$Tape", "readHouse", "(LHillHouses$Slope;)Z"⟩, prog_6_method_10_code, 6, some .boolean, 0, 474, 473, 70, 13),
  (4, ⟨"HillHouses$Tape", "takeWord", "(Ljava/lang/String;)Z"⟩, prog_6_method_11_code, 2, some .boolean, 0, 373, 372, 70, 7),
  (4, ⟨"HillHouses$Tape", "takeSign", "()Z"⟩, prog_6_method_12_code, 1, some .boolean, 0, 444, 443, 70, 11),
  (4, ⟨"HillHouses$Tape", "takeNumber", "(II)I"⟩, prog_6_method_13_code, 4, some .int, 0, 433, 432, 70, 10),
  (4, ⟨"HillHouses$Tape", "takeKind", "()I"⟩, prog_6_method_14_code, 2, some .int, 0, 478, 477, 70, 14),
  (4, ⟨"HillHouses$Tape", "kindByWord", "()I"⟩, prog_6_method_15_code, 1, some .int, 0, 482, 481, 70, 15)]
def pm_mt2 : List pm_ME := [(4, ⟨"HillHouses$Tape", "fail", "(I)Z"⟩, prog_6_method_16_code, 2, some .boolean, 0, 429, 428, 70, 9),
  (4, ⟨"HillHouses$Tape", "isWord", "(Ljava/lang/String;)Z"⟩, prog_6_method_17_code, 3, some .boolean, 0, 377, 376, 70, 8),
  (4, ⟨"HillHouses$Tape", "step", "()V"⟩, prog_6_method_18_code, 1, none, 0, 343, 342, 70, 2),
  (4, ⟨"HillHouses$Tape", "stepOverName", "()V"⟩, prog_6_method_19_code, 1, none, 0, 357, 356, 70, 4),
  (4, ⟨"HillHouses$Tape", "stepOverNumber", "()V"⟩, prog_6_method_20_code, 1, none, 0, 364, 363, 70, 5),
  (4, ⟨"HillHouses$Tape", "byteAt", "(I)I"⟩, prog_6_method_21_code, 2, some .int, 0, 347, 346, 70, 3),
  (4, ⟨"HillHouses$Tape", "isBlank", "(I)Z"⟩, prog_6_method_22_code, 1, some .boolean, 1, 350, 349, 70, 0),
  (4, ⟨"HillHouses$Tape", "isLetter", "(I)Z"⟩, prog_6_method_23_code, 1, some .boolean, 1, 353, 352, 70, 0),
  (4, ⟨"HillHouses$Tape", "isFigure", "(I)Z"⟩, prog_6_method_24_code, 1, some .boolean, 1, 360, 359, 70, 0),
  (5, ⟨"HillHouses", "<init>", "()V"⟩, prog_1_method_1_code, 1, none, 2, 87, 86, 68, 0),
  (5, ⟨"HillHouses", "row", "(III)I"⟩, prog_1_method_2_code, 4, some .int, 0, 250, 248, 68, 249),
  (5, ⟨"HillHouses", "set", "(III)I"⟩, prog_1_method_3_code, 4, some .int, 0, 276, 274, 68, 275),
  (5, ⟨"HillHouses", "copy", "(IIIII)I"⟩, prog_1_method_4_code, 6, some .int, 0, 298, 296, 68, 297),
  (5, ⟨"HillHouses", "drop", "(I)I"⟩, prog_1_method_5_code, 2, some .int, 0, 313, 311, 68, 312),
  (5, ⟨"HillHouses", "feed", "(JI)I"⟩, prog_1_method_6_code, 4, some .int, 0, 321, 319, 68, 320),
  (5, ⟨"HillHouses", "hill", "()I"⟩, prog_1_method_7_code, 2, some .int, 0, 335, 333, 68, 334),
  (5, ⟨"HillHouses", "fault", "()I"⟩, prog_1_method_8_code, 1, some .int, 0, 539, 537, 68, 538),
  (5, ⟨"HillHouses", "winter", "()I"⟩, prog_1_method_9_code, 1, some .int, 0, 547, 545, 68, 546),
  (5, ⟨"HillHouses", "haul", "(II)I"⟩, prog_1_method_10_code, 3, some .int, 0, 592, 590, 68, 591),
  (5, ⟨"HillHouses", "chock", "(II)I"⟩, prog_1_method_11_code, 3, some .int, 0, 611, 609, 68, 610),
  (5, ⟨"HillHouses", "chocks", "(III)I"⟩, prog_1_method_12_code, 6, some .int, 0, 624, 622, 68, 623),
  (5, ⟨"HillHouses", "undo", "()I"⟩, prog_1_method_13_code, 1, some .int, 0, 632, 630, 68, 631),
  (5, ⟨"HillHouses", "house", "(II)I"⟩, prog_1_method_14_code, 3, some .int, 0, 648, 646, 68, 647),
  (5, ⟨"HillHouses", "yard", "(II)I"⟩, prog_1_method_15_code, 3, some .int, 0, 664, 662, 68, 663),
  (5, ⟨"HillHouses", "ahead", "(III)I"⟩, prog_1_method_16_code, 4, some .int, 0, 669, 667, 68, 668),
  (5, ⟨"HillHouses", "stream", "(I)I"⟩, prog_1_method_17_code, 3, some .int, 0, 677, 675, 68, 676),
  (5, ⟨"HillHouses", "beside", "(III)I"⟩, prog_1_method_18_code, 4, some .int, 0, 686, 684, 68, 685),
  (5, ⟨"HillHouses", "meet", "(IIII)I"⟩, prog_1_method_19_code, 8, some .int, 0, 701, 699, 68, 700),
  (5, ⟨"HillHouses", "street", "(I)I"⟩, prog_1_method_20_code, 2, some .int, 0, 712, 710, 68, 711),
  (5, ⟨"HillHouses", "stood", "(III)I"⟩, prog_1_method_21_code, 6, some .int, 0, 721, 719, 68, 720),
  (5, ⟨"HillHouses", "stolen", "(I)I"⟩, prog_1_method_22_code, 3, some .int, 0, 734, 732, 68, 733),
  (5, ⟨"HillHouses", "image", "(I)I"⟩, prog_1_method_23_code, 3, some .int, 0, 746, 744, 68, 745),
  (5, ⟨"HillHouses", "restore", "(I)I"⟩, prog_1_method_24_code, 3, some .int, 0, 750, 748, 68, 749),
  (5, ⟨"HillHouses", "kind", "(I)I"⟩, prog_1_method_25_code, 2, some .int, 0, 754, 752, 68, 753),
  (5, ⟨"HillHouses", "as", "(II)I"⟩, prog_1_method_26_code, 3, some .int, 0, 762, 760, 68, 761),
  (5, ⟨"HillHouses", "ask", "(II)I"⟩, prog_1_method_27_code, 3, some .int, 0, 775, 773, 68, 774),
  (5, ⟨"HillHouses", "trace", "(I)I"⟩, prog_1_method_28_code, 2, some .int, 0, 805, 803, 68, 804),
  (5, ⟨"HillHouses", "count", "(I)I"⟩, prog_1_method_29_code, 2, some .int, 0, 814, 812, 68, 813),
  (5, ⟨"HillHouses", "status", "()I"⟩, prog_1_method_30_code, 1, some .int, 0, 837, 835, 68, 836),
  (5, ⟨"HillHouses", "isUpTo", "(II)Z"⟩, prog_1_method_31_code, 2, some .boolean, 1, 256, 255, 68, 0)]
def pm_mt3 : List pm_ME := [(5, ⟨"HillHouses", "isRow", "(I)Z"⟩, prog_1_method_32_code, 1, some .boolean, 1, 253, 252, 68, 0),
  (5, ⟨"HillHouses", "isPair", "(II)Z"⟩, prog_1_method_33_code, 3, some .boolean, 0, 690, 689, 68, 23),
  (5, ⟨"HillHouses", "found", "(I)I"⟩, prog_1_method_34_code, 2, some .int, 0, 261, 260, 68, 0),
  (5, ⟨"HillHouses", "answered", "(I)I"⟩, prog_1_method_35_code, 2, some .int, 0, 272, 271, 68, 1),
  (5, ⟨"HillHouses", "chockAsAct", "(II)I"⟩, prog_1_method_36_code, 4, some .int, 0, 615, 614, 68, 21),
  (5, ⟨"HillHouses", "rollTrial", "(I)V"⟩, prog_1_method_37_code, 3, none, 0, 673, 672, 68, 22),
  (5, ⟨"HillHouses", "meetsBy", "(IIIII)Z"⟩, prog_1_method_38_code, 7, some .boolean, 0, 708, 707, 68, 24),
  (5, ⟨"HillHouses", "comesSo", "(II)Z"⟩, prog_1_method_39_code, 4, some .boolean, 0, 742, 741, 68, 25),
  (6, ⟨"HillHousesModel", "<init>", "()V"⟩, prog_8_method_1_code, 1, none, 2, 842, 841, 74, 0),
  (6, ⟨"HillHousesModel", "in", "(JJJ)Z"⟩, prog_8_method_3_code, 6, some .boolean, 1, 934, 933, 74, 0),
  (6, ⟨"HillHousesModel", "finding", "(I)I"⟩, prog_8_method_4_code, 2, some .int, 0, 940, 939, 74, 29),
  (6, ⟨"HillHousesModel", "isRow", "(I)Z"⟩, prog_8_method_5_code, 1, some .boolean, 1, 930, 929, 74, 0),
  (6, ⟨"HillHousesModel", "row", "(III)I"⟩, prog_8_method_6_code, 5, some .int, 0, 927, 925, 74, 926),
  (6, ⟨"HillHousesModel", "set", "(III)I"⟩, prog_8_method_7_code, 4, some .int, 0, 945, 943, 74, 944),
  (6, ⟨"HillHousesModel", "copy", "(IIIII)I"⟩, prog_8_method_8_code, 9, some .int, 0, 949, 947, 74, 948),
  (6, ⟨"HillHousesModel", "drop", "(I)I"⟩, prog_8_method_9_code, 2, some .int, 0, 953, 951, 74, 952),
  (6, ⟨"HillHousesModel", "feed", "(JI)I"⟩, prog_8_method_10_code, 5, some .int, 0, 957, 955, 74, 956),
  (6, ⟨"HillHousesModel", "byteAt", "(I)I"⟩, prog_8_method_11_code, 2, some .int, 0, 976, 975, 74, 32),
  (6, ⟨"HillHousesModel", "isLetter", "(I)Z"⟩, prog_8_method_12_code, 1, some .boolean, 1, 980, 979, 74, 0),
  (6, ⟨"HillHousesModel", "isFigure", "(I)Z"⟩, prog_8_method_13_code, 1, some .boolean, 1, 983, 982, 74, 0),
  (6, ⟨"HillHousesModel", "next", "()V"⟩, prog_8_method_14_code, 2, none, 0, 972, 971, 74, 31),
  (6, ⟨"HillHousesModel", "begin", "()V"⟩, prog_8_method_15_code, 1, none, 0, 968, 967, 74, 30),
  (6, ⟨"HillHousesModel", "bad", "(I)V"⟩, prog_8_method_16_code, 2, none, 0, 996, 995, 74, 35),
  (6, ⟨"HillHousesModel", "must", "(Z)V"⟩, prog_8_method_17_code, 2, none, 0, 992, 991, 74, 34),
  (6, ⟨"HillHousesModel", "name", "()J"⟩, prog_8_method_18_code, 4, some .long, 0, 987, 986, 74, 33),
  (6, ⟨"HillHousesModel", "figures", "()I"⟩, prog_8_method_19_code, 3, some .int, 0, 1004, 1003, 74, 37),
  (6, ⟨"HillHousesModel", "number", "(II)I"⟩, prog_8_method_20_code, 4, some .int, 0, 1000, 999, 74, 36),
  (6, ⟨"HillHousesModel", "kindBy", "(J)I"⟩, prog_8_method_21_code, 2, some .int, 1, 1025, 1024, 74, 0),
  (6, ⟨"HillHousesModel", "mustEnd", "()V"⟩, prog_8_method_22_code, 1, none, 0, 1008, 1007, 74, 38),
  (6, ⟨"HillHousesModel", "begins", "(II)V"⟩, prog_8_method_23_code, 3, none, 0, 1017, 1016, 74, 40),
  (6, ⟨"HillHousesModel", "readStone", "()V"⟩, prog_8_method_24_code, 3, none, 0, 1013, 1012, 74, 39),
  (6, ⟨"HillHousesModel", "isTaken", "(II)Z"⟩, prog_8_method_25_code, 5, some .boolean, 0, 1034, 1033, 74, 42),
  (6, ⟨"HillHousesModel", "readHouse", "()V"⟩, prog_8_method_26_code, 6, none, 0, 1022, 1021, 74, 41),
  (6, ⟨"HillHousesModel", "hill", "()I"⟩, prog_8_method_27_code, 2, some .int, 0, 964, 962, 74, 963),
  (6, ⟨"HillHousesModel", "fault", "()I"⟩, prog_8_method_28_code, 1, some .int, 0, 1039, 1037, 74, 1038),
  (6, ⟨"HillHousesModel", "isThere", "()Z"⟩, prog_8_method_29_code, 1, some .boolean, 0, 1047, 1046, 74, 43),
  (6, ⟨"HillHousesModel", "isHouse", "(I)Z"⟩, prog_8_method_30_code, 2, some .boolean, 0, 1092, 1091, 74, 53),
  (6, ⟨"HillHousesModel", "areTwo", "(II)Z"⟩, prog_8_method_31_code, 3, some .boolean, 0, 1143, 1142, 74, 57),
  (6, ⟨"HillHousesModel", "of", "(II)I"⟩, prog_8_method_32_code, 3, some .int, 0, 1060, 1059, 74, 46),
  (6, ⟨"HillHousesModel", "isStone", "(II)Z"⟩, prog_8_method_33_code, 3, some .boolean, 0, 1080, 1079, 74, 51)]
def pm_mt4 : List pm_ME := [(6, ⟨"HillHousesModel", "layNow", "()V"⟩, prog_8_method_34_code, 2, none, 0, 1056, 1055, 74, 45),
  (6, ⟨"HillHousesModel", "houseAt", "(II)I"⟩, prog_8_method_35_code, 4, some .int, 0, 1084, 1083, 74, 52),
  (6, ⟨"HillHousesModel", "roll", "(I)V"⟩, prog_8_method_36_code, 3, none, 0, 1076, 1075, 74, 50),
  (6, ⟨"HillHousesModel", "isAlone", "(I)Z"⟩, prog_8_method_37_code, 4, some .boolean, 0, 1072, 1071, 74, 49),
  (6, ⟨"HillHousesModel", "goHouse", "(II)V"⟩, prog_8_method_38_code, 6, none, 0, 1068, 1067, 74, 48),
  (6, ⟨"HillHousesModel", "goWinter", "(I)V"⟩, prog_8_method_39_code, 4, none, 0, 1064, 1063, 74, 47),
  (6, ⟨"HillHousesModel", "keep", "()V"⟩, prog_8_method_40_code, 2, none, 0, 1052, 1051, 74, 44),
  (6, ⟨"HillHousesModel", "winter", "()I"⟩, prog_8_method_41_code, 3, some .int, 0, 1043, 1041, 74, 1042),
  (6, ⟨"HillHousesModel", "haul", "(II)I"⟩, prog_8_method_42_code, 6, some .int, 0, 1088, 1086, 74, 1087),
  (6, ⟨"HillHousesModel", "becomes", "(II)I"⟩, prog_8_method_43_code, 4, some .int, 0, 1100, 1099, 74, 54),
  (6, ⟨"HillHousesModel", "chock", "(II)I"⟩, prog_8_method_44_code, 3, some .int, 0, 1096, 1094, 74, 1095),
  (6, ⟨"HillHousesModel", "chocks", "(III)I"⟩, prog_8_method_45_code, 6, some .int, 0, 1104, 1102, 74, 1103),
  (6, ⟨"HillHousesModel", "undo", "()I"⟩, prog_8_method_46_code, 2, some .int, 0, 1109, 1107, 74, 1108),
  (6, ⟨"HillHousesModel", "viewOf", "(I)I"⟩, prog_8_method_47_code, 4, some .int, 0, 1118, 1117, 74, 55),
  (6, ⟨"HillHousesModel", "house", "(II)I"⟩, prog_8_method_48_code, 3, some .int, 0, 1113, 1111, 74, 1112),
  (6, ⟨"HillHousesModel", "yard", "(II)I"⟩, prog_8_method_49_code, 4, some .int, 0, 1122, 1120, 74, 1121),
  (6, ⟨"HillHousesModel", "layAhead", "(I)V"⟩, prog_8_method_50_code, 3, none, 0, 1131, 1130, 74, 56),
  (6, ⟨"HillHousesModel", "ahead", "(III)I"⟩, prog_8_method_51_code, 4, some .int, 0, 1126, 1124, 74, 1125),
  (6, ⟨"HillHousesModel", "stream", "(I)I"⟩, prog_8_method_52_code, 3, some .int, 0, 1135, 1133, 74, 1134),
  (6, ⟨"HillHousesModel", "areBeside", "(II)Z"⟩, prog_8_method_53_code, 4, some .boolean, 0, 1147, 1146, 74, 58),
  (6, ⟨"HillHousesModel", "beside", "(III)I"⟩, prog_8_method_54_code, 4, some .int, 0, 1139, 1137, 74, 1138),
  (6, ⟨"HillHousesModel", "meetsBy", "(IIIII)Z"⟩, prog_8_method_55_code, 7, some .boolean, 0, 1156, 1155, 74, 59),
  (6, ⟨"HillHousesModel", "meet", "(IIII)I"⟩, prog_8_method_56_code, 7, some .int, 0, 1151, 1149, 74, 1150),
  (6, ⟨"HillHousesModel", "street", "(I)I"⟩, prog_8_method_57_code, 5, some .int, 0, 1160, 1158, 74, 1159),
  (6, ⟨"HillHousesModel", "aloneTo", "(IIII)I"⟩, prog_8_method_58_code, 10, some .int, 0, 1168, 1167, 74, 60),
  (6, ⟨"HillHousesModel", "stood", "(III)I"⟩, prog_8_method_59_code, 6, some .int, 0, 1164, 1162, 74, 1163),
  (6, ⟨"HillHousesModel", "stolen", "(I)I"⟩, prog_8_method_60_code, 3, some .int, 0, 1172, 1170, 74, 1171),
  (6, ⟨"HillHousesModel", "comesSo", "(II)Z"⟩, prog_8_method_61_code, 5, some .boolean, 0, 1176, 1175, 74, 61),
  (6, ⟨"HillHousesModel", "image", "(I)I"⟩, prog_8_method_62_code, 3, some .int, 0, 1180, 1178, 74, 1179),
  (6, ⟨"HillHousesModel", "restore", "(I)I"⟩, prog_8_method_63_code, 3, some .int, 0, 1184, 1182, 74, 1183),
  (6, ⟨"HillHousesModel", "isOf", "(II)Z"⟩, prog_8_method_64_code, 2, some .boolean, 1, 1195, 1194, 74, 0),
  (6, ⟨"HillHousesModel", "kind", "(I)I"⟩, prog_8_method_65_code, 2, some .int, 0, 1188, 1186, 74, 1187),
  (6, ⟨"HillHousesModel", "as", "(II)I"⟩, prog_8_method_66_code, 3, some .int, 0, 1192, 1190, 74, 1191),
  (6, ⟨"HillHousesModel", "began", "(I)V"⟩, prog_8_method_67_code, 2, none, 0, 1211, 1210, 74, 64),
  (6, ⟨"HillHousesModel", "plainSize", "(I)I"⟩, prog_8_method_68_code, 2, some .int, 0, 1215, 1214, 74, 65),
  (6, ⟨"HillHousesModel", "churchSize", "(I)I"⟩, prog_8_method_69_code, 3, some .int, 0, 1207, 1206, 74, 63),
  (6, ⟨"HillHousesModel", "markOf", "(I)I"⟩, prog_8_method_70_code, 4, some .int, 0, 1219, 1218, 74, 66),
  (6, ⟨"HillHousesModel", "sizeOf", "(I)I"⟩, prog_8_method_71_code, 4, some .int, 0, 1203, 1202, 74, 62),
  (6, ⟨"HillHousesModel", "ask", "(II)I"⟩, prog_8_method_72_code, 3, some .int, 0, 1199, 1197, 74, 1198),
  (6, ⟨"HillHousesModel", "trace", "(I)I"⟩, prog_8_method_73_code, 2, some .int, 0, 1223, 1221, 74, 1222)]
def pm_mt5 : List pm_ME := [(6, ⟨"HillHousesModel", "count", "(I)I"⟩, prog_8_method_74_code, 4, some .int, 0, 1227, 1225, 74, 1226),
  (6, ⟨"HillHousesModel", "status", "()I"⟩, prog_8_method_75_code, 1, some .int, 0, 1231, 1229, 74, 1230),
  (8, ⟨"java/lang/Integer", "bitCount", "(I)I"⟩, prog_9_method_49_code, 1, some .int, 1, 821, 820, 82, 0),
  (10, ⟨"java/lang/String", "length", "()I"⟩, prog_11_method_54_code, 1, some .int, 0, 381, 379, 76, 380),
  (10, ⟨"java/lang/String", "charAt", "(I)C"⟩, prog_11_method_56_code, 2, some .char, 0, 391, 389, 76, 390),
  (10, ⟨"java/lang/String", "coder", "()B"⟩, prog_11_method_152_code, 1, some .byte, 0, 385, 383, 76, 384),
  (10, ⟨"java/lang/String", "isLatin1", "()Z"⟩, prog_11_method_154_code, 1, some .boolean, 0, 395, 393, 76, 394),
  (10, ⟨"java/lang/String", "checkIndex", "(II)V"⟩, prog_11_method_155_code, 2, none, 1, 401, 400, 76, 0),
  (11, ⟨"java/lang/StringLatin1", "charAt", "([BI)C"⟩, prog_12_method_2_code, 2, some .char, 1, 398, 397, 77, 0),
  (12, ⟨"java/util/Arrays", "fill", "([II)V"⟩, prog_15_method_103_code, 4, none, 1, 440, 439, 80, 0),
  (13, ⟨"jdk/internal/util/Preconditions", "checkIndex", "(IILjava/util/function/BiFunction;)I"⟩, prog_16_method_11_code, 3, some .int, 1, 406, 405, 78, 0),
  (7, ⟨"HillHousesLaw", "law", "([I)Z"⟩, code, 4, some .boolean, 1, 0, 0, 67, 0)]
def pm_mt : List pm_ME := pm_mt0 ++ pm_mt1 ++ pm_mt2 ++ pm_mt3 ++ pm_mt4 ++ pm_mt5
def pm_m (i : Nat) : pm_ME := (pm_mt[i]?).getD (99, ⟨"", "", ""⟩, ⟨#[]⟩, 0, none, 9, 0, 0, 0, 0)
def pm_mc (i : Nat) : Nat := (pm_m i).1
def pm_my (i : Nat) : MethodName := (pm_m i).2.1
def pm_mb (i : Nat) : ByteArray := (pm_m i).2.2.1
def pm_ml (i : Nat) : Nat := (pm_m i).2.2.2.1
def pm_mr (i : Nat) : Option FieldType := (pm_m i).2.2.2.2.1
def pm_mk (i : Nat) : Nat := (pm_m i).2.2.2.2.2.1
/-- links, by the class that has the entry and its number: a field (class, slot, place of its word; class 100: a String's), a static, a method (kind: 0 of an object, 1 static, 2 constructor, 3 static of a nest mate, 4 constructor of a nest mate, 5 Object's, 6 arraycopy, 7 Math.min, 8 Math.abs; method; arguments; place, or number among the nest's), a class to be made, constants -/
def pm_lft : List ((Nat × Nat) × Nat × Nat × Nat) := [((2, 9), 2, 0, 97), ((2, 15), 2, 1, 98), ((2, 18), 2, 2, 99), ((2, 25), 2, 3, 100), ((4, 9), 4, 0, 117), ((4, 15), 4, 1, 118), ((4, 57), 4, 2, 119), ((4, 118), 4, 3, 120), ((4, 29), 4, 4, 121), ((4, 92), 4, 5, 122), ((4, 19), 4, 6, 123), ((4, 22), 4, 7, 124), ((0, 11), 0, 0, 149), ((0, 21), 0, 1, 150), ((0, 17), 0, 2, 151), ((1, 9), 1, 0, 165), ((1, 32), 1, 1, 166), ((3, 39), 3, 0, 178), ((3, 43), 3, 1, 179), ((3, 46), 3, 2, 180), ((3, 49), 3, 3, 181), ((3, 52), 3, 4, 182), ((3, 9), 3, 5, 183), ((3, 15), 3, 6, 184), ((3, 18), 3, 7, 185), ((3, 21), 3, 8, 186), ((3, 24), 3, 9, 187), ((3, 27), 3, 10, 188), ((3, 30), 3, 11, 189), ((3, 33), 3, 12, 190), ((3, 36), 3, 13, 191), ((5, 10), 5, 0, 222), ((5, 19), 5, 1, 223), ((5, 26), 5, 2, 224), ((5, 33), 5, 3, 225), ((5, 40), 5, 4, 226), ((5, 44), 5, 5, 227), ((5, 47), 5, 6, 228), ((5, 243), 5, 7, 229), ((6, 50), 6, 0, 844), ((6, 54), 6, 1, 845), ((6, 7), 6, 2, 846), ((6, 13), 6, 3, 847), ((6, 16), 6, 4, 848), ((6, 19), 6, 5, 849), ((6, 22), 6, 6, 850), ((6, 25), 6, 7, 851), ((6, 181), 6, 8, 852), ((6, 28), 6, 9, 853), ((6, 77), 6, 10, 854), ((6, 177), 6, 11, 855), ((6, 83), 6, 12, 856), ((6, 87), 6, 13, 857), ((6, 96), 6, 14, 858), ((6, 93), 6, 15, 859), ((6, 105), 6, 16, 860), ((6, 108), 6, 17, 861), ((6, 114), 6, 18, 862), ((6, 31), 6, 19, 863), ((6, 34), 6, 20, 864), ((6, 37), 6, 21, 865), ((6, 40), 6, 22, 866), ((6, 44), 6, 23, 867), ((6, 47), 6, 24, 868), ((6, 256), 6, 25, 869), ((10, 9), 100, 0, 1233), ((10, 15), 100, 1, 1234)]
def pm_lst : List ((Nat × Nat) × Nat × Nat) := [((10, 38), 3, 386), ((10, 1053), 4, 402), ((1, 15), 0, 766), ((1, 26), 1, 788), ((1, 29), 2, 790)]
def pm_lmt : List ((Nat × Nat) × Nat × Nat × Nat × Nat) := [((7, 9), 2, 89, 0, 85),
  ((5, 1), 5, 0, 0, 88),
  ((5, 9), 4, 14, 0, 0),
  ((2, 3), 5, 0, 0, 96),
  ((5, 18), 4, 65, 0, 1),
  ((4, 3), 5, 0, 0, 116),
  ((5, 25), 4, 0, 0, 2),
  ((0, 3), 5, 0, 0, 148),
  ((5, 32), 4, 5, 0, 3),
  ((1, 3), 5, 0, 0, 164),
  ((5, 39), 4, 25, 0, 4),
  ((3, 3), 5, 0, 0, 177),
  ((7, 13), 0, 90, 3, 247),
  ((5, 51), 1, 120, 1, 251),
  ((5, 55), 1, 119, 2, 254),
  ((5, 60), 0, 122, 1, 258),
  ((5, 64), 0, 20, 3, 263),
  ((2, 21), 3, 120, 1, 5),
  ((2, 43), 3, 119, 2, 6),
  ((5, 68), 0, 123, 1, 269),
  ((7, 18), 0, 91, 3, 273),
  ((5, 71), 0, 15, 1, 277),
  ((5, 74), 0, 16, 3, 281),
  ((2, 29), 0, 15, 1, 285),
  ((5, 78), 0, 21, 3, 286),
  ((2, 33), 0, 16, 3, 290),
  ((2, 47), 1, 24, 2, 292),
  ((7, 22), 0, 92, 5, 295),
  ((5, 82), 0, 17, 1, 299),
  ((5, 85), 0, 22, 5, 303),
  ((2, 51), 6, 0, 5, 307),
  ((7, 27), 0, 93, 1, 310),
  ((5, 89), 0, 23, 1, 314),
  ((7, 34), 0, 94, 2, 318),
  ((5, 92), 0, 70, 2, 322),
  ((4, 25), 3, 119, 2, 7),
  ((5, 96), 0, 66, 0, 327),
  ((7, 39), 0, 95, 0, 332),
  ((5, 101), 0, 71, 1, 336),
  ((4, 32), 0, 82, 0, 340),
  ((4, 126), 0, 85, 1, 344),
  ((4, 134), 1, 86, 1, 348),
  ((4, 137), 1, 87, 1, 351),
  ((4, 140), 0, 83, 0, 354),
  ((4, 143), 1, 88, 1, 358),
  ((4, 146), 0, 84, 0, 361),
  ((4, 35), 0, 72, 1, 365),
  ((4, 62), 0, 75, 1, 370),
  ((4, 41), 0, 81, 1, 374),
  ((4, 121), 0, 203, 0, 378),
  ((10, 335), 0, 205, 0, 382),
  ((4, 130), 0, 204, 1, 388),
  ((10, 492), 0, 206, 0, 392),
  ((10, 495), 1, 208, 2, 396),
  ((11, 9), 1, 207, 2, 399),
  ((10, 1059), 1, 210, 3, 404),
  ((4, 45), 0, 80, 1, 426),
  ((4, 65), 0, 77, 2, 430),
  ((4, 69), 0, 49, 2, 434),
  ((3, 92), 1, 209, 2, 438),
  ((4, 75), 0, 76, 0, 441),
  ((4, 49), 0, 73, 1, 446),
  ((4, 79), 0, 27, 0, 450),
  ((4, 83), 0, 28, 0, 454),
  ((4, 86), 0, 50, 2, 458),
  ((3, 66), 0, 33, 1, 462),
  ((3, 69), 0, 34, 1, 466),
  ((4, 54), 0, 74, 1, 471),
  ((4, 89), 0, 78, 0, 475),
  ((4, 105), 0, 79, 0, 479),
  ((4, 95), 0, 34, 1, 488),
  ((4, 98), 0, 45, 2, 489),
  ((3, 72), 0, 44, 2, 493),
  ((3, 76), 0, 39, 1, 497),
  ((3, 61), 0, 35, 1, 501),
  ((3, 78), 0, 38, 1, 506),
  ((4, 101), 0, 51, 4, 510),
  ((5, 105), 0, 69, 0, 514),
  ((5, 109), 0, 68, 0, 519),
  ((5, 112), 0, 52, 1, 523),
  ((3, 98), 6, 0, 5, 527),
  ((5, 116), 0, 2, 0, 528),
  ((5, 119), 0, 29, 0, 532),
  ((7, 44), 0, 96, 0, 536),
  ((5, 122), 0, 67, 0, 540),
  ((7, 48), 0, 97, 0, 544),
  ((5, 125), 0, 26, 0, 548),
  ((5, 130), 0, 30, 0, 553),
  ((5, 133), 0, 3, 1, 557),
  ((0, 24), 0, 53, 2, 561),
  ((5, 136), 0, 60, 0, 565),
  ((3, 110), 0, 61, 0, 569),
  ((3, 113), 0, 62, 1, 573),
  ((3, 119), 0, 41, 1, 577),
  ((3, 122), 0, 63, 1, 581),
  ((3, 116), 0, 64, 1, 585),
  ((7, 52), 0, 98, 2, 589),
  ((5, 139), 0, 35, 1, 593),
  ((5, 142), 0, 33, 1, 594),
  ((5, 145), 0, 45, 2, 595),
  ((5, 149), 0, 56, 2, 596),
  ((3, 104), 0, 57, 1, 600),
  ((3, 108), 0, 37, 1, 604),
  ((7, 57), 0, 99, 2, 608),
  ((5, 152), 0, 124, 2, 612),
  ((5, 169), 0, 41, 1, 616),
  ((5, 248), 0, 55, 2, 617),
  ((7, 61), 0, 100, 3, 621),
  ((5, 155), 0, 18, 2, 625),
  ((7, 65), 0, 101, 0, 629),
  ((5, 158), 0, 4, 1, 633),
  ((0, 28), 0, 54, 2, 637),
  ((5, 161), 0, 1, 0, 641),
  ((7, 69), 0, 102, 2, 645),
  ((5, 162), 0, 38, 1, 649),
  ((5, 163), 0, 39, 1, 650),
  ((5, 166), 0, 37, 1, 651),
  ((5, 172), 0, 40, 1, 652),
  ((5, 175), 0, 46, 1, 656),
  ((3, 80), 0, 45, 2, 660),
  ((7, 73), 0, 103, 2, 661),
  ((5, 178), 0, 34, 1, 665),
  ((7, 77), 0, 104, 3, 666),
  ((5, 181), 0, 125, 1, 670),
  ((7, 81), 0, 105, 1, 674),
  ((5, 185), 0, 43, 1, 678),
  ((7, 85), 0, 106, 3, 683),
  ((5, 189), 0, 121, 2, 687),
  ((5, 192), 0, 48, 2, 691),
  ((3, 87), 8, 0, 1, 695),
  ((7, 89), 0, 107, 4, 698),
  ((5, 195), 7, 0, 2, 702),
  ((5, 200), 0, 126, 5, 705),
  ((7, 94), 0, 108, 1, 709),
  ((5, 204), 0, 47, 1, 713),
  ((3, 84), 0, 43, 1, 717),
  ((7, 98), 0, 109, 3, 718),
  ((5, 207), 0, 58, 1, 722),
  ((5, 210), 0, 44, 2, 726),
  ((5, 213), 0, 59, 2, 727),
  ((7, 102), 0, 110, 1, 731),
  ((5, 217), 0, 42, 1, 735),
  ((5, 220), 0, 127, 2, 739),
  ((7, 106), 0, 111, 1, 743),
  ((7, 110), 0, 112, 1, 747),
  ((7, 114), 0, 113, 1, 751),
  ((5, 223), 0, 36, 1, 755),
  ((7, 118), 0, 114, 2, 759),
  ((5, 226), 1, 6, 2, 763),
  ((1, 18), 1, 7, 1, 768),
  ((1, 22), 3, 119, 2, 8),
  ((7, 122), 0, 115, 2, 772),
  ((5, 229), 0, 10, 3, 776),
  ((1, 37), 0, 11, 4, 780),
  ((1, 41), 0, 36, 1, 784),
  ((1, 46), 1, 8, 2, 785),
  ((1, 50), 0, 12, 4, 792),
  ((1, 53), 0, 13, 1, 796),
  ((1, 57), 0, 37, 1, 800),
  ((1, 60), 0, 39, 1, 801),
  ((7, 126), 0, 116, 1, 802),
  ((5, 233), 0, 9, 1, 806),
  ((7, 130), 0, 117, 1, 811),
  ((5, 236), 0, 19, 0, 815),
  ((2, 37), 1, 202, 1, 819),
  ((5, 237), 0, 32, 0, 825),
  ((3, 55), 1, 202, 1, 829),
  ((5, 240), 0, 31, 0, 830),
  ((7, 134), 0, 118, 0, 834),
  ((7, 12), 2, 128, 0, 840),
  ((6, 1), 5, 0, 0, 843),
  ((7, 17), 0, 132, 3, 924),
  ((6, 64), 1, 131, 1, 928),
  ((6, 60), 1, 129, 3, 932),
  ((6, 71), 0, 130, 1, 937),
  ((7, 21), 0, 133, 3, 942),
  ((7, 26), 0, 134, 5, 946),
  ((7, 31), 0, 135, 1, 950),
  ((7, 38), 0, 136, 2, 954),
  ((7, 43), 0, 153, 0, 961),
  ((6, 162), 0, 141, 0, 965),
  ((6, 111), 0, 140, 0, 969),
  ((6, 90), 0, 137, 1, 973),
  ((6, 99), 1, 138, 1, 978),
  ((6, 102), 1, 139, 1, 981),
  ((6, 150), 0, 144, 0, 984),
  ((6, 125), 0, 143, 1, 989),
  ((6, 117), 0, 142, 1, 993),
  ((6, 143), 0, 146, 2, 997),
  ((6, 121), 0, 145, 0, 1001),
  ((6, 147), 0, 148, 0, 1005),
  ((6, 169), 0, 150, 0, 1010),
  ((6, 139), 0, 149, 2, 1014),
  ((6, 174), 0, 152, 0, 1019),
  ((6, 154), 1, 147, 1, 1023),
  ((6, 158), 0, 151, 2, 1031),
  ((7, 47), 0, 154, 0, 1036),
  ((7, 51), 0, 167, 0, 1040),
  ((6, 205), 0, 155, 0, 1044),
  ((6, 210), 0, 166, 0, 1049),
  ((6, 213), 0, 160, 0, 1053),
  ((6, 187), 0, 158, 2, 1057),
  ((6, 216), 0, 165, 1, 1061),
  ((6, 202), 0, 164, 2, 1065),
  ((6, 196), 0, 163, 1, 1069),
  ((6, 199), 0, 162, 1, 1073),
  ((6, 190), 0, 159, 2, 1077),
  ((6, 193), 0, 161, 2, 1081),
  ((7, 56), 0, 168, 2, 1085),
  ((6, 184), 0, 156, 1, 1089),
  ((7, 60), 0, 170, 2, 1093),
  ((6, 219), 0, 169, 2, 1097),
  ((7, 64), 0, 171, 3, 1101),
  ((7, 68), 0, 172, 0, 1106),
  ((7, 72), 0, 174, 2, 1110),
  ((6, 226), 0, 173, 1, 1115),
  ((7, 76), 0, 175, 2, 1119),
  ((7, 80), 0, 177, 3, 1123),
  ((6, 231), 0, 176, 1, 1128),
  ((7, 84), 0, 178, 1, 1132),
  ((7, 88), 0, 180, 3, 1136),
  ((6, 234), 0, 157, 2, 1140),
  ((6, 237), 0, 179, 2, 1144),
  ((7, 93), 0, 182, 4, 1148),
  ((6, 242), 0, 181, 5, 1153),
  ((7, 97), 0, 183, 1, 1157),
  ((7, 101), 0, 185, 3, 1161),
  ((6, 246), 0, 184, 4, 1165),
  ((7, 105), 0, 186, 1, 1169),
  ((6, 250), 0, 187, 2, 1173),
  ((7, 109), 0, 188, 1, 1177),
  ((7, 113), 0, 189, 1, 1181),
  ((7, 117), 0, 191, 1, 1185),
  ((7, 121), 0, 192, 2, 1189),
  ((6, 253), 1, 190, 2, 1193),
  ((7, 125), 0, 198, 2, 1196),
  ((6, 271), 0, 197, 1, 1200),
  ((6, 265), 0, 195, 1, 1204),
  ((6, 259), 0, 193, 1, 1208),
  ((6, 262), 0, 194, 1, 1212),
  ((6, 268), 0, 196, 1, 1216),
  ((7, 129), 0, 199, 1, 1220),
  ((7, 133), 0, 200, 1, 1224),
  ((7, 137), 0, 201, 0, 1228)]
def pm_lct : List ((Nat × Nat) × Nat × Nat) := [((7, 7), 5, 83), ((5, 7), 2, 91), ((5, 16), 4, 111), ((5, 23), 0, 143), ((5, 30), 1, 159), ((5, 37), 3, 172), ((7, 10), 6, 838)]
def pm_lkt : List ((Nat × Nat) × Int32 × Nat) := [((5, 59), -1000001, 257), ((5, 247), -1000010, 262), ((2, 32), -1000000, 291), ((5, 100), -1000003, 331), ((3, 65), -1000000, 505), ((5, 108), -1000100, 518), ((5, 129), -1000002, 552), ((5, 188), -1000000, 682), ((1, 36), -1000000, 810), ((8, 265), 1431655765, 822), ((8, 266), 858993459, 823), ((8, 267), 252645135, 824), ((6, 70), -1000001, 936), ((6, 57), -1000010, 941), ((6, 80), -1000003, 959), ((6, 86), -1000000, 977), ((6, 180), -1000100, 1035), ((6, 209), -1000002, 1048)]
def pm_llt : List ((Nat × Nat) × Int64 × Nat) := [((6, 58), 7, 931), ((6, 68), 2, 935), ((6, 75), 8, 958), ((6, 81), 255, 960), ((6, 165), 495740481637, 988), ((6, 167), 495874698853, 1009), ((6, 172), 448546567013, 1018), ((6, 129), 109300298179432, 1026), ((6, 131), 6909550, 1027), ((6, 133), 1835625580, 1028), ((6, 135), 6845812, 1029), ((6, 137), 1650553454, 1030), ((6, 222), 6, 1105), ((6, 224), 5, 1114), ((6, 229), 40, 1127), ((6, 240), 20, 1152), ((7, 32), 4294967295, 1232)]
def pm_ltt : List ((Nat × Nat) × Nat) := [((4, 60), 0), ((4, 39), 1), ((4, 52), 2), ((4, 108), 3), ((4, 110), 4), ((4, 112), 5), ((4, 114), 6), ((4, 116), 7)]
def pm_nst : List (String × Nat × MethodName × String) := [("HillHouses", 9, ⟨"HillHouses$Rows", "<init>", "()V"⟩, "HillHouses"), ("HillHouses", 18, ⟨"HillHouses$Tape", "<init>", "()V"⟩, "HillHouses"), ("HillHouses", 25, ⟨"HillHouses$Acts", "<init>", "()V"⟩, "HillHouses"), ("HillHouses", 32, ⟨"HillHouses$Asker", "<init>", "()V"⟩, "HillHouses"), ("HillHouses", 39, ⟨"HillHouses$Slope", "<init>", "()V"⟩, "HillHouses"), ("HillHouses$Rows", 21, ⟨"HillHouses", "isRow", "(I)Z"⟩, "HillHouses"), ("HillHouses$Rows", 43, ⟨"HillHouses", "isUpTo", "(II)Z"⟩, "HillHouses"), ("HillHouses$Tape", 25, ⟨"HillHouses", "isUpTo", "(II)Z"⟩, "HillHouses"), ("HillHouses$Asker", 22, ⟨"HillHouses", "isUpTo", "(II)Z"⟩, "HillHouses")]
end
section
/-! the methods' code words (printed by program) -/
def pm_TB : List Cond := lw_tbl.filter goodWord
def pm_has (w : Cond) (p : Nat) : Bool := decide (lw_tbl[p]? = some w) && goodWord w
theorem pm_cw0 : pm_has (.code (pm_my 0) (pm_mb 0) (pm_ml 0) (pm_mr 0)) (pm_m 0).2.2.2.2.2.2.1 = true := by decide +kernel
theorem pm_cw1 : pm_has (.code (pm_my 1) (pm_mb 1) (pm_ml 1) (pm_mr 1)) (pm_m 1).2.2.2.2.2.2.1 = true := by decide +kernel
theorem pm_cw2 : pm_has (.code (pm_my 2) (pm_mb 2) (pm_ml 2) (pm_mr 2)) (pm_m 2).2.2.2.2.2.2.1 = true := by decide +kernel
theorem pm_cw3 : pm_has (.code (pm_my 3) (pm_mb 3) (pm_ml 3) (pm_mr 3)) (pm_m 3).2.2.2.2.2.2.1 = true := by decide +kernel
theorem pm_cw4 : pm_has (.code (pm_my 4) (pm_mb 4) (pm_ml 4) (pm_mr 4)) (pm_m 4).2.2.2.2.2.2.1 = true := by decide +kernel
theorem pm_cw5 : pm_has (.code (pm_my 5) (pm_mb 5) (pm_ml 5) (pm_mr 5)) (pm_m 5).2.2.2.2.2.2.1 = true := by decide +kernel
theorem pm_cw6 : pm_has (.code (pm_my 6) (pm_mb 6) (pm_ml 6) (pm_mr 6)) (pm_m 6).2.2.2.2.2.2.1 = true := by decide +kernel
theorem pm_cw7 : pm_has (.code (pm_my 7) (pm_mb 7) (pm_ml 7) (pm_mr 7)) (pm_m 7).2.2.2.2.2.2.1 = true := by decide +kernel
theorem pm_cw8 : pm_has (.code (pm_my 8) (pm_mb 8) (pm_ml 8) (pm_mr 8)) (pm_m 8).2.2.2.2.2.2.1 = true := by decide +kernel
theorem pm_cw9 : pm_has (.code (pm_my 9) (pm_mb 9) (pm_ml 9) (pm_mr 9)) (pm_m 9).2.2.2.2.2.2.1 = true := by decide +kernel
theorem pm_cw10 : pm_has (.code (pm_my 10) (pm_mb 10) (pm_ml 10) (pm_mr 10)) (pm_m 10).2.2.2.2.2.2.1 = true := by decide +kernel
theorem pm_cw11 : pm_has (.code (pm_my 11) (pm_mb 11) (pm_ml 11) (pm_mr 11)) (pm_m 11).2.2.2.2.2.2.1 = true := by decide +kernel
theorem pm_cw12 : pm_has (.code (pm_my 12) (pm_mb 12) (pm_ml 12) (pm_mr 12)) (pm_m 12).2.2.2.2.2.2.1 = true := by decide +kernel
theorem pm_cw13 : pm_has (.code (pm_my 13) (pm_mb 13) (pm_ml 13) (pm_mr 13)) (pm_m 13).2.2.2.2.2.2.1 = true := by decide +kernel
theorem pm_cw14 : pm_has (.code (pm_my 14) (pm_mb 14) (pm_ml 14) (pm_mr 14)) (pm_m 14).2.2.2.2.2.2.1 = true := by decide +kernel
theorem pm_cw15 : pm_has (.code (pm_my 15) (pm_mb 15) (pm_ml 15) (pm_mr 15)) (pm_m 15).2.2.2.2.2.2.1 = true := by decide +kernel
theorem pm_cw16 : pm_has (.code (pm_my 16) (pm_mb 16) (pm_ml 16) (pm_mr 16)) (pm_m 16).2.2.2.2.2.2.1 = true := by decide +kernel
theorem pm_cw17 : pm_has (.code (pm_my 17) (pm_mb 17) (pm_ml 17) (pm_mr 17)) (pm_m 17).2.2.2.2.2.2.1 = true := by decide +kernel
theorem pm_cw18 : pm_has (.code (pm_my 18) (pm_mb 18) (pm_ml 18) (pm_mr 18)) (pm_m 18).2.2.2.2.2.2.1 = true := by decide +kernel
theorem pm_cw19 : pm_has (.code (pm_my 19) (pm_mb 19) (pm_ml 19) (pm_mr 19)) (pm_m 19).2.2.2.2.2.2.1 = true := by decide +kernel
theorem pm_cw20 : pm_has (.code (pm_my 20) (pm_mb 20) (pm_ml 20) (pm_mr 20)) (pm_m 20).2.2.2.2.2.2.1 = true := by decide +kernel
theorem pm_cw21 : pm_has (.code (pm_my 21) (pm_mb 21) (pm_ml 21) (pm_mr 21)) (pm_m 21).2.2.2.2.2.2.1 = true := by decide +kernel
theorem pm_cw22 : pm_has (.code (pm_my 22) (pm_mb 22) (pm_ml 22) (pm_mr 22)) (pm_m 22).2.2.2.2.2.2.1 = true := by decide +kernel
theorem pm_cw23 : pm_has (.code (pm_my 23) (pm_mb 23) (pm_ml 23) (pm_mr 23)) (pm_m 23).2.2.2.2.2.2.1 = true := by decide +kernel
theorem pm_cw24 : pm_has (.code (pm_my 24) (pm_mb 24) (pm_ml 24) (pm_mr 24)) (pm_m 24).2.2.2.2.2.2.1 = true := by decide +kernel
theorem pm_cw25 : pm_has (.code (pm_my 25) (pm_mb 25) (pm_ml 25) (pm_mr 25)) (pm_m 25).2.2.2.2.2.2.1 = true := by decide +kernel
theorem pm_cw26 : pm_has (.code (pm_my 26) (pm_mb 26) (pm_ml 26) (pm_mr 26)) (pm_m 26).2.2.2.2.2.2.1 = true := by decide +kernel
theorem pm_cw27 : pm_has (.code (pm_my 27) (pm_mb 27) (pm_ml 27) (pm_mr 27)) (pm_m 27).2.2.2.2.2.2.1 = true := by decide +kernel
theorem pm_cw28 : pm_has (.code (pm_my 28) (pm_mb 28) (pm_ml 28) (pm_mr 28)) (pm_m 28).2.2.2.2.2.2.1 = true := by decide +kernel
theorem pm_cw29 : pm_has (.code (pm_my 29) (pm_mb 29) (pm_ml 29) (pm_mr 29)) (pm_m 29).2.2.2.2.2.2.1 = true := by decide +kernel
theorem pm_cw30 : pm_has (.code (pm_my 30) (pm_mb 30) (pm_ml 30) (pm_mr 30)) (pm_m 30).2.2.2.2.2.2.1 = true := by decide +kernel
theorem pm_cw31 : pm_has (.code (pm_my 31) (pm_mb 31) (pm_ml 31) (pm_mr 31)) (pm_m 31).2.2.2.2.2.2.1 = true := by decide +kernel
theorem pm_cw32 : pm_has (.code (pm_my 32) (pm_mb 32) (pm_ml 32) (pm_mr 32)) (pm_m 32).2.2.2.2.2.2.1 = true := by decide +kernel
theorem pm_cw33 : pm_has (.code (pm_my 33) (pm_mb 33) (pm_ml 33) (pm_mr 33)) (pm_m 33).2.2.2.2.2.2.1 = true := by decide +kernel
theorem pm_cw34 : pm_has (.code (pm_my 34) (pm_mb 34) (pm_ml 34) (pm_mr 34)) (pm_m 34).2.2.2.2.2.2.1 = true := by decide +kernel
theorem pm_cw35 : pm_has (.code (pm_my 35) (pm_mb 35) (pm_ml 35) (pm_mr 35)) (pm_m 35).2.2.2.2.2.2.1 = true := by decide +kernel
theorem pm_cw36 : pm_has (.code (pm_my 36) (pm_mb 36) (pm_ml 36) (pm_mr 36)) (pm_m 36).2.2.2.2.2.2.1 = true := by decide +kernel
theorem pm_cw37 : pm_has (.code (pm_my 37) (pm_mb 37) (pm_ml 37) (pm_mr 37)) (pm_m 37).2.2.2.2.2.2.1 = true := by decide +kernel
theorem pm_cw38 : pm_has (.code (pm_my 38) (pm_mb 38) (pm_ml 38) (pm_mr 38)) (pm_m 38).2.2.2.2.2.2.1 = true := by decide +kernel
theorem pm_cw39 : pm_has (.code (pm_my 39) (pm_mb 39) (pm_ml 39) (pm_mr 39)) (pm_m 39).2.2.2.2.2.2.1 = true := by decide +kernel
theorem pm_cw40 : pm_has (.code (pm_my 40) (pm_mb 40) (pm_ml 40) (pm_mr 40)) (pm_m 40).2.2.2.2.2.2.1 = true := by decide +kernel
theorem pm_cw41 : pm_has (.code (pm_my 41) (pm_mb 41) (pm_ml 41) (pm_mr 41)) (pm_m 41).2.2.2.2.2.2.1 = true := by decide +kernel
theorem pm_cw42 : pm_has (.code (pm_my 42) (pm_mb 42) (pm_ml 42) (pm_mr 42)) (pm_m 42).2.2.2.2.2.2.1 = true := by decide +kernel
theorem pm_cw43 : pm_has (.code (pm_my 43) (pm_mb 43) (pm_ml 43) (pm_mr 43)) (pm_m 43).2.2.2.2.2.2.1 = true := by decide +kernel
theorem pm_cw44 : pm_has (.code (pm_my 44) (pm_mb 44) (pm_ml 44) (pm_mr 44)) (pm_m 44).2.2.2.2.2.2.1 = true := by decide +kernel
theorem pm_cw45 : pm_has (.code (pm_my 45) (pm_mb 45) (pm_ml 45) (pm_mr 45)) (pm_m 45).2.2.2.2.2.2.1 = true := by decide +kernel
theorem pm_cw46 : pm_has (.code (pm_my 46) (pm_mb 46) (pm_ml 46) (pm_mr 46)) (pm_m 46).2.2.2.2.2.2.1 = true := by decide +kernel
theorem pm_cw47 : pm_has (.code (pm_my 47) (pm_mb 47) (pm_ml 47) (pm_mr 47)) (pm_m 47).2.2.2.2.2.2.1 = true := by decide +kernel
theorem pm_cw48 : pm_has (.code (pm_my 48) (pm_mb 48) (pm_ml 48) (pm_mr 48)) (pm_m 48).2.2.2.2.2.2.1 = true := by decide +kernel
theorem pm_cw49 : pm_has (.code (pm_my 49) (pm_mb 49) (pm_ml 49) (pm_mr 49)) (pm_m 49).2.2.2.2.2.2.1 = true := by decide +kernel
theorem pm_cw50 : pm_has (.code (pm_my 50) (pm_mb 50) (pm_ml 50) (pm_mr 50)) (pm_m 50).2.2.2.2.2.2.1 = true := by decide +kernel
theorem pm_cw51 : pm_has (.code (pm_my 51) (pm_mb 51) (pm_ml 51) (pm_mr 51)) (pm_m 51).2.2.2.2.2.2.1 = true := by decide +kernel
theorem pm_cw52 : pm_has (.code (pm_my 52) (pm_mb 52) (pm_ml 52) (pm_mr 52)) (pm_m 52).2.2.2.2.2.2.1 = true := by decide +kernel
theorem pm_cw53 : pm_has (.code (pm_my 53) (pm_mb 53) (pm_ml 53) (pm_mr 53)) (pm_m 53).2.2.2.2.2.2.1 = true := by decide +kernel
theorem pm_cw54 : pm_has (.code (pm_my 54) (pm_mb 54) (pm_ml 54) (pm_mr 54)) (pm_m 54).2.2.2.2.2.2.1 = true := by decide +kernel
theorem pm_cw55 : pm_has (.code (pm_my 55) (pm_mb 55) (pm_ml 55) (pm_mr 55)) (pm_m 55).2.2.2.2.2.2.1 = true := by decide +kernel
theorem pm_cw56 : pm_has (.code (pm_my 56) (pm_mb 56) (pm_ml 56) (pm_mr 56)) (pm_m 56).2.2.2.2.2.2.1 = true := by decide +kernel
theorem pm_cw57 : pm_has (.code (pm_my 57) (pm_mb 57) (pm_ml 57) (pm_mr 57)) (pm_m 57).2.2.2.2.2.2.1 = true := by decide +kernel
theorem pm_cw58 : pm_has (.code (pm_my 58) (pm_mb 58) (pm_ml 58) (pm_mr 58)) (pm_m 58).2.2.2.2.2.2.1 = true := by decide +kernel
theorem pm_cw59 : pm_has (.code (pm_my 59) (pm_mb 59) (pm_ml 59) (pm_mr 59)) (pm_m 59).2.2.2.2.2.2.1 = true := by decide +kernel
theorem pm_cw60 : pm_has (.code (pm_my 60) (pm_mb 60) (pm_ml 60) (pm_mr 60)) (pm_m 60).2.2.2.2.2.2.1 = true := by decide +kernel
theorem pm_cw61 : pm_has (.code (pm_my 61) (pm_mb 61) (pm_ml 61) (pm_mr 61)) (pm_m 61).2.2.2.2.2.2.1 = true := by decide +kernel
theorem pm_cw62 : pm_has (.code (pm_my 62) (pm_mb 62) (pm_ml 62) (pm_mr 62)) (pm_m 62).2.2.2.2.2.2.1 = true := by decide +kernel
theorem pm_cw63 : pm_has (.code (pm_my 63) (pm_mb 63) (pm_ml 63) (pm_mr 63)) (pm_m 63).2.2.2.2.2.2.1 = true := by decide +kernel
theorem pm_cw64 : pm_has (.code (pm_my 64) (pm_mb 64) (pm_ml 64) (pm_mr 64)) (pm_m 64).2.2.2.2.2.2.1 = true := by decide +kernel
theorem pm_cw65 : pm_has (.code (pm_my 65) (pm_mb 65) (pm_ml 65) (pm_mr 65)) (pm_m 65).2.2.2.2.2.2.1 = true := by decide +kernel
theorem pm_cw66 : pm_has (.code (pm_my 66) (pm_mb 66) (pm_ml 66) (pm_mr 66)) (pm_m 66).2.2.2.2.2.2.1 = true := by decide +kernel
theorem pm_cw67 : pm_has (.code (pm_my 67) (pm_mb 67) (pm_ml 67) (pm_mr 67)) (pm_m 67).2.2.2.2.2.2.1 = true := by decide +kernel
theorem pm_cw68 : pm_has (.code (pm_my 68) (pm_mb 68) (pm_ml 68) (pm_mr 68)) (pm_m 68).2.2.2.2.2.2.1 = true := by decide +kernel
theorem pm_cw69 : pm_has (.code (pm_my 69) (pm_mb 69) (pm_ml 69) (pm_mr 69)) (pm_m 69).2.2.2.2.2.2.1 = true := by decide +kernel
theorem pm_cw70 : pm_has (.code (pm_my 70) (pm_mb 70) (pm_ml 70) (pm_mr 70)) (pm_m 70).2.2.2.2.2.2.1 = true := by decide +kernel
theorem pm_cw71 : pm_has (.code (pm_my 71) (pm_mb 71) (pm_ml 71) (pm_mr 71)) (pm_m 71).2.2.2.2.2.2.1 = true := by decide +kernel
theorem pm_cw72 : pm_has (.code (pm_my 72) (pm_mb 72) (pm_ml 72) (pm_mr 72)) (pm_m 72).2.2.2.2.2.2.1 = true := by decide +kernel
theorem pm_cw73 : pm_has (.code (pm_my 73) (pm_mb 73) (pm_ml 73) (pm_mr 73)) (pm_m 73).2.2.2.2.2.2.1 = true := by decide +kernel
theorem pm_cw74 : pm_has (.code (pm_my 74) (pm_mb 74) (pm_ml 74) (pm_mr 74)) (pm_m 74).2.2.2.2.2.2.1 = true := by decide +kernel
theorem pm_cw75 : pm_has (.code (pm_my 75) (pm_mb 75) (pm_ml 75) (pm_mr 75)) (pm_m 75).2.2.2.2.2.2.1 = true := by decide +kernel
theorem pm_cw76 : pm_has (.code (pm_my 76) (pm_mb 76) (pm_ml 76) (pm_mr 76)) (pm_m 76).2.2.2.2.2.2.1 = true := by decide +kernel
theorem pm_cw77 : pm_has (.code (pm_my 77) (pm_mb 77) (pm_ml 77) (pm_mr 77)) (pm_m 77).2.2.2.2.2.2.1 = true := by decide +kernel
theorem pm_cw78 : pm_has (.code (pm_my 78) (pm_mb 78) (pm_ml 78) (pm_mr 78)) (pm_m 78).2.2.2.2.2.2.1 = true := by decide +kernel
theorem pm_cw79 : pm_has (.code (pm_my 79) (pm_mb 79) (pm_ml 79) (pm_mr 79)) (pm_m 79).2.2.2.2.2.2.1 = true := by decide +kernel
theorem pm_cw80 : pm_has (.code (pm_my 80) (pm_mb 80) (pm_ml 80) (pm_mr 80)) (pm_m 80).2.2.2.2.2.2.1 = true := by decide +kernel
theorem pm_cw81 : pm_has (.code (pm_my 81) (pm_mb 81) (pm_ml 81) (pm_mr 81)) (pm_m 81).2.2.2.2.2.2.1 = true := by decide +kernel
theorem pm_cw82 : pm_has (.code (pm_my 82) (pm_mb 82) (pm_ml 82) (pm_mr 82)) (pm_m 82).2.2.2.2.2.2.1 = true := by decide +kernel
theorem pm_cw83 : pm_has (.code (pm_my 83) (pm_mb 83) (pm_ml 83) (pm_mr 83)) (pm_m 83).2.2.2.2.2.2.1 = true := by decide +kernel
theorem pm_cw84 : pm_has (.code (pm_my 84) (pm_mb 84) (pm_ml 84) (pm_mr 84)) (pm_m 84).2.2.2.2.2.2.1 = true := by decide +kernel
theorem pm_cw85 : pm_has (.code (pm_my 85) (pm_mb 85) (pm_ml 85) (pm_mr 85)) (pm_m 85).2.2.2.2.2.2.1 = true := by decide +kernel
theorem pm_cw86 : pm_has (.code (pm_my 86) (pm_mb 86) (pm_ml 86) (pm_mr 86)) (pm_m 86).2.2.2.2.2.2.1 = true := by decide +kernel
theorem pm_cw87 : pm_has (.code (pm_my 87) (pm_mb 87) (pm_ml 87) (pm_mr 87)) (pm_m 87).2.2.2.2.2.2.1 = true := by decide +kernel
theorem pm_cw88 : pm_has (.code (pm_my 88) (pm_mb 88) (pm_ml 88) (pm_mr 88)) (pm_m 88).2.2.2.2.2.2.1 = true := by decide +kernel
theorem pm_cw89 : pm_has (.code (pm_my 89) (pm_mb 89) (pm_ml 89) (pm_mr 89)) (pm_m 89).2.2.2.2.2.2.1 = true := by decide +kernel
theorem pm_cw90 : pm_has (.code (pm_my 90) (pm_mb 90) (pm_ml 90) (pm_mr 90)) (pm_m 90).2.2.2.2.2.2.1 = true := by decide +kernel
theorem pm_cw91 : pm_has (.code (pm_my 91) (pm_mb 91) (pm_ml 91) (pm_mr 91)) (pm_m 91).2.2.2.2.2.2.1 = true := by decide +kernel
theorem pm_cw92 : pm_has (.code (pm_my 92) (pm_mb 92) (pm_ml 92) (pm_mr 92)) (pm_m 92).2.2.2.2.2.2.1 = true := by decide +kernel
theorem pm_cw93 : pm_has (.code (pm_my 93) (pm_mb 93) (pm_ml 93) (pm_mr 93)) (pm_m 93).2.2.2.2.2.2.1 = true := by decide +kernel
theorem pm_cw94 : pm_has (.code (pm_my 94) (pm_mb 94) (pm_ml 94) (pm_mr 94)) (pm_m 94).2.2.2.2.2.2.1 = true := by decide +kernel
theorem pm_cw95 : pm_has (.code (pm_my 95) (pm_mb 95) (pm_ml 95) (pm_mr 95)) (pm_m 95).2.2.2.2.2.2.1 = true := by decide +kernel
theorem pm_cw96 : pm_has (.code (pm_my 96) (pm_mb 96) (pm_ml 96) (pm_mr 96)) (pm_m 96).2.2.2.2.2.2.1 = true := by decide +kernel
theorem pm_cw97 : pm_has (.code (pm_my 97) (pm_mb 97) (pm_ml 97) (pm_mr 97)) (pm_m 97).2.2.2.2.2.2.1 = true := by decide +kernel
theorem pm_cw98 : pm_has (.code (pm_my 98) (pm_mb 98) (pm_ml 98) (pm_mr 98)) (pm_m 98).2.2.2.2.2.2.1 = true := by decide +kernel
theorem pm_cw99 : pm_has (.code (pm_my 99) (pm_mb 99) (pm_ml 99) (pm_mr 99)) (pm_m 99).2.2.2.2.2.2.1 = true := by decide +kernel
theorem pm_cw100 : pm_has (.code (pm_my 100) (pm_mb 100) (pm_ml 100) (pm_mr 100)) (pm_m 100).2.2.2.2.2.2.1 = true := by decide +kernel
theorem pm_cw101 : pm_has (.code (pm_my 101) (pm_mb 101) (pm_ml 101) (pm_mr 101)) (pm_m 101).2.2.2.2.2.2.1 = true := by decide +kernel
theorem pm_cw102 : pm_has (.code (pm_my 102) (pm_mb 102) (pm_ml 102) (pm_mr 102)) (pm_m 102).2.2.2.2.2.2.1 = true := by decide +kernel
theorem pm_cw103 : pm_has (.code (pm_my 103) (pm_mb 103) (pm_ml 103) (pm_mr 103)) (pm_m 103).2.2.2.2.2.2.1 = true := by decide +kernel
theorem pm_cw104 : pm_has (.code (pm_my 104) (pm_mb 104) (pm_ml 104) (pm_mr 104)) (pm_m 104).2.2.2.2.2.2.1 = true := by decide +kernel
theorem pm_cw105 : pm_has (.code (pm_my 105) (pm_mb 105) (pm_ml 105) (pm_mr 105)) (pm_m 105).2.2.2.2.2.2.1 = true := by decide +kernel
theorem pm_cw106 : pm_has (.code (pm_my 106) (pm_mb 106) (pm_ml 106) (pm_mr 106)) (pm_m 106).2.2.2.2.2.2.1 = true := by decide +kernel
theorem pm_cw107 : pm_has (.code (pm_my 107) (pm_mb 107) (pm_ml 107) (pm_mr 107)) (pm_m 107).2.2.2.2.2.2.1 = true := by decide +kernel
theorem pm_cw108 : pm_has (.code (pm_my 108) (pm_mb 108) (pm_ml 108) (pm_mr 108)) (pm_m 108).2.2.2.2.2.2.1 = true := by decide +kernel
theorem pm_cw109 : pm_has (.code (pm_my 109) (pm_mb 109) (pm_ml 109) (pm_mr 109)) (pm_m 109).2.2.2.2.2.2.1 = true := by decide +kernel
theorem pm_cw110 : pm_has (.code (pm_my 110) (pm_mb 110) (pm_ml 110) (pm_mr 110)) (pm_m 110).2.2.2.2.2.2.1 = true := by decide +kernel
theorem pm_cw111 : pm_has (.code (pm_my 111) (pm_mb 111) (pm_ml 111) (pm_mr 111)) (pm_m 111).2.2.2.2.2.2.1 = true := by decide +kernel
theorem pm_cw112 : pm_has (.code (pm_my 112) (pm_mb 112) (pm_ml 112) (pm_mr 112)) (pm_m 112).2.2.2.2.2.2.1 = true := by decide +kernel
theorem pm_cw113 : pm_has (.code (pm_my 113) (pm_mb 113) (pm_ml 113) (pm_mr 113)) (pm_m 113).2.2.2.2.2.2.1 = true := by decide +kernel
theorem pm_cw114 : pm_has (.code (pm_my 114) (pm_mb 114) (pm_ml 114) (pm_mr 114)) (pm_m 114).2.2.2.2.2.2.1 = true := by decide +kernel
theorem pm_cw115 : pm_has (.code (pm_my 115) (pm_mb 115) (pm_ml 115) (pm_mr 115)) (pm_m 115).2.2.2.2.2.2.1 = true := by decide +kernel
theorem pm_cw116 : pm_has (.code (pm_my 116) (pm_mb 116) (pm_ml 116) (pm_mr 116)) (pm_m 116).2.2.2.2.2.2.1 = true := by decide +kernel
theorem pm_cw117 : pm_has (.code (pm_my 117) (pm_mb 117) (pm_ml 117) (pm_mr 117)) (pm_m 117).2.2.2.2.2.2.1 = true := by decide +kernel
theorem pm_cw118 : pm_has (.code (pm_my 118) (pm_mb 118) (pm_ml 118) (pm_mr 118)) (pm_m 118).2.2.2.2.2.2.1 = true := by decide +kernel
theorem pm_cw119 : pm_has (.code (pm_my 119) (pm_mb 119) (pm_ml 119) (pm_mr 119)) (pm_m 119).2.2.2.2.2.2.1 = true := by decide +kernel
theorem pm_cw120 : pm_has (.code (pm_my 120) (pm_mb 120) (pm_ml 120) (pm_mr 120)) (pm_m 120).2.2.2.2.2.2.1 = true := by decide +kernel
theorem pm_cw121 : pm_has (.code (pm_my 121) (pm_mb 121) (pm_ml 121) (pm_mr 121)) (pm_m 121).2.2.2.2.2.2.1 = true := by decide +kernel
theorem pm_cw122 : pm_has (.code (pm_my 122) (pm_mb 122) (pm_ml 122) (pm_mr 122)) (pm_m 122).2.2.2.2.2.2.1 = true := by decide +kernel
theorem pm_cw123 : pm_has (.code (pm_my 123) (pm_mb 123) (pm_ml 123) (pm_mr 123)) (pm_m 123).2.2.2.2.2.2.1 = true := by decide +kernel
theorem pm_cw124 : pm_has (.code (pm_my 124) (pm_mb 124) (pm_ml 124) (pm_mr 124)) (pm_m 124).2.2.2.2.2.2.1 = true := by decide +kernel
theorem pm_cw125 : pm_has (.code (pm_my 125) (pm_mb 125) (pm_ml 125) (pm_mr 125)) (pm_m 125).2.2.2.2.2.2.1 = true := by decide +kernel
theorem pm_cw126 : pm_has (.code (pm_my 126) (pm_mb 126) (pm_ml 126) (pm_mr 126)) (pm_m 126).2.2.2.2.2.2.1 = true := by decide +kernel
theorem pm_cw127 : pm_has (.code (pm_my 127) (pm_mb 127) (pm_ml 127) (pm_mr 127)) (pm_m 127).2.2.2.2.2.2.1 = true := by decide +kernel
theorem pm_cw128 : pm_has (.code (pm_my 128) (pm_mb 128) (pm_ml 128) (pm_mr 128)) (pm_m 128).2.2.2.2.2.2.1 = true := by decide +kernel
theorem pm_cw129 : pm_has (.code (pm_my 129) (pm_mb 129) (pm_ml 129) (pm_mr 129)) (pm_m 129).2.2.2.2.2.2.1 = true := by decide +kernel
theorem pm_cw130 : pm_has (.code (pm_my 130) (pm_mb 130) (pm_ml 130) (pm_mr 130)) (pm_m 130).2.2.2.2.2.2.1 = true := by decide +kernel
theorem pm_cw131 : pm_has (.code (pm_my 131) (pm_mb 131) (pm_ml 131) (pm_mr 131)) (pm_m 131).2.2.2.2.2.2.1 = true := by decide +kernel
theorem pm_cw132 : pm_has (.code (pm_my 132) (pm_mb 132) (pm_ml 132) (pm_mr 132)) (pm_m 132).2.2.2.2.2.2.1 = true := by decide +kernel
theorem pm_cw133 : pm_has (.code (pm_my 133) (pm_mb 133) (pm_ml 133) (pm_mr 133)) (pm_m 133).2.2.2.2.2.2.1 = true := by decide +kernel
theorem pm_cw134 : pm_has (.code (pm_my 134) (pm_mb 134) (pm_ml 134) (pm_mr 134)) (pm_m 134).2.2.2.2.2.2.1 = true := by decide +kernel
theorem pm_cw135 : pm_has (.code (pm_my 135) (pm_mb 135) (pm_ml 135) (pm_mr 135)) (pm_m 135).2.2.2.2.2.2.1 = true := by decide +kernel
theorem pm_cw136 : pm_has (.code (pm_my 136) (pm_mb 136) (pm_ml 136) (pm_mr 136)) (pm_m 136).2.2.2.2.2.2.1 = true := by decide +kernel
theorem pm_cw137 : pm_has (.code (pm_my 137) (pm_mb 137) (pm_ml 137) (pm_mr 137)) (pm_m 137).2.2.2.2.2.2.1 = true := by decide +kernel
theorem pm_cw138 : pm_has (.code (pm_my 138) (pm_mb 138) (pm_ml 138) (pm_mr 138)) (pm_m 138).2.2.2.2.2.2.1 = true := by decide +kernel
theorem pm_cw139 : pm_has (.code (pm_my 139) (pm_mb 139) (pm_ml 139) (pm_mr 139)) (pm_m 139).2.2.2.2.2.2.1 = true := by decide +kernel
theorem pm_cw140 : pm_has (.code (pm_my 140) (pm_mb 140) (pm_ml 140) (pm_mr 140)) (pm_m 140).2.2.2.2.2.2.1 = true := by decide +kernel
theorem pm_cw141 : pm_has (.code (pm_my 141) (pm_mb 141) (pm_ml 141) (pm_mr 141)) (pm_m 141).2.2.2.2.2.2.1 = true := by decide +kernel
theorem pm_cw142 : pm_has (.code (pm_my 142) (pm_mb 142) (pm_ml 142) (pm_mr 142)) (pm_m 142).2.2.2.2.2.2.1 = true := by decide +kernel
theorem pm_cw143 : pm_has (.code (pm_my 143) (pm_mb 143) (pm_ml 143) (pm_mr 143)) (pm_m 143).2.2.2.2.2.2.1 = true := by decide +kernel
theorem pm_cw144 : pm_has (.code (pm_my 144) (pm_mb 144) (pm_ml 144) (pm_mr 144)) (pm_m 144).2.2.2.2.2.2.1 = true := by decide +kernel
theorem pm_cw145 : pm_has (.code (pm_my 145) (pm_mb 145) (pm_ml 145) (pm_mr 145)) (pm_m 145).2.2.2.2.2.2.1 = true := by decide +kernel
theorem pm_cw146 : pm_has (.code (pm_my 146) (pm_mb 146) (pm_ml 146) (pm_mr 146)) (pm_m 146).2.2.2.2.2.2.1 = true := by decide +kernel
theorem pm_cw147 : pm_has (.code (pm_my 147) (pm_mb 147) (pm_ml 147) (pm_mr 147)) (pm_m 147).2.2.2.2.2.2.1 = true := by decide +kernel
theorem pm_cw148 : pm_has (.code (pm_my 148) (pm_mb 148) (pm_ml 148) (pm_mr 148)) (pm_m 148).2.2.2.2.2.2.1 = true := by decide +kernel
theorem pm_cw149 : pm_has (.code (pm_my 149) (pm_mb 149) (pm_ml 149) (pm_mr 149)) (pm_m 149).2.2.2.2.2.2.1 = true := by decide +kernel
theorem pm_cw150 : pm_has (.code (pm_my 150) (pm_mb 150) (pm_ml 150) (pm_mr 150)) (pm_m 150).2.2.2.2.2.2.1 = true := by decide +kernel
theorem pm_cw151 : pm_has (.code (pm_my 151) (pm_mb 151) (pm_ml 151) (pm_mr 151)) (pm_m 151).2.2.2.2.2.2.1 = true := by decide +kernel
theorem pm_cw152 : pm_has (.code (pm_my 152) (pm_mb 152) (pm_ml 152) (pm_mr 152)) (pm_m 152).2.2.2.2.2.2.1 = true := by decide +kernel
theorem pm_cw153 : pm_has (.code (pm_my 153) (pm_mb 153) (pm_ml 153) (pm_mr 153)) (pm_m 153).2.2.2.2.2.2.1 = true := by decide +kernel
theorem pm_cw154 : pm_has (.code (pm_my 154) (pm_mb 154) (pm_ml 154) (pm_mr 154)) (pm_m 154).2.2.2.2.2.2.1 = true := by decide +kernel
theorem pm_cw155 : pm_has (.code (pm_my 155) (pm_mb 155) (pm_ml 155) (pm_mr 155)) (pm_m 155).2.2.2.2.2.2.1 = true := by decide +kernel
theorem pm_cw156 : pm_has (.code (pm_my 156) (pm_mb 156) (pm_ml 156) (pm_mr 156)) (pm_m 156).2.2.2.2.2.2.1 = true := by decide +kernel
theorem pm_cw157 : pm_has (.code (pm_my 157) (pm_mb 157) (pm_ml 157) (pm_mr 157)) (pm_m 157).2.2.2.2.2.2.1 = true := by decide +kernel
theorem pm_cw158 : pm_has (.code (pm_my 158) (pm_mb 158) (pm_ml 158) (pm_mr 158)) (pm_m 158).2.2.2.2.2.2.1 = true := by decide +kernel
theorem pm_cw159 : pm_has (.code (pm_my 159) (pm_mb 159) (pm_ml 159) (pm_mr 159)) (pm_m 159).2.2.2.2.2.2.1 = true := by decide +kernel
theorem pm_cw160 : pm_has (.code (pm_my 160) (pm_mb 160) (pm_ml 160) (pm_mr 160)) (pm_m 160).2.2.2.2.2.2.1 = true := by decide +kernel
theorem pm_cw161 : pm_has (.code (pm_my 161) (pm_mb 161) (pm_ml 161) (pm_mr 161)) (pm_m 161).2.2.2.2.2.2.1 = true := by decide +kernel
theorem pm_cw162 : pm_has (.code (pm_my 162) (pm_mb 162) (pm_ml 162) (pm_mr 162)) (pm_m 162).2.2.2.2.2.2.1 = true := by decide +kernel
theorem pm_cw163 : pm_has (.code (pm_my 163) (pm_mb 163) (pm_ml 163) (pm_mr 163)) (pm_m 163).2.2.2.2.2.2.1 = true := by decide +kernel
theorem pm_cw164 : pm_has (.code (pm_my 164) (pm_mb 164) (pm_ml 164) (pm_mr 164)) (pm_m 164).2.2.2.2.2.2.1 = true := by decide +kernel
theorem pm_cw165 : pm_has (.code (pm_my 165) (pm_mb 165) (pm_ml 165) (pm_mr 165)) (pm_m 165).2.2.2.2.2.2.1 = true := by decide +kernel
theorem pm_cw166 : pm_has (.code (pm_my 166) (pm_mb 166) (pm_ml 166) (pm_mr 166)) (pm_m 166).2.2.2.2.2.2.1 = true := by decide +kernel
theorem pm_cw167 : pm_has (.code (pm_my 167) (pm_mb 167) (pm_ml 167) (pm_mr 167)) (pm_m 167).2.2.2.2.2.2.1 = true := by decide +kernel
theorem pm_cw168 : pm_has (.code (pm_my 168) (pm_mb 168) (pm_ml 168) (pm_mr 168)) (pm_m 168).2.2.2.2.2.2.1 = true := by decide +kernel
theorem pm_cw169 : pm_has (.code (pm_my 169) (pm_mb 169) (pm_ml 169) (pm_mr 169)) (pm_m 169).2.2.2.2.2.2.1 = true := by decide +kernel
theorem pm_cw170 : pm_has (.code (pm_my 170) (pm_mb 170) (pm_ml 170) (pm_mr 170)) (pm_m 170).2.2.2.2.2.2.1 = true := by decide +kernel
theorem pm_cw171 : pm_has (.code (pm_my 171) (pm_mb 171) (pm_ml 171) (pm_mr 171)) (pm_m 171).2.2.2.2.2.2.1 = true := by decide +kernel
theorem pm_cw172 : pm_has (.code (pm_my 172) (pm_mb 172) (pm_ml 172) (pm_mr 172)) (pm_m 172).2.2.2.2.2.2.1 = true := by decide +kernel
theorem pm_cw173 : pm_has (.code (pm_my 173) (pm_mb 173) (pm_ml 173) (pm_mr 173)) (pm_m 173).2.2.2.2.2.2.1 = true := by decide +kernel
theorem pm_cw174 : pm_has (.code (pm_my 174) (pm_mb 174) (pm_ml 174) (pm_mr 174)) (pm_m 174).2.2.2.2.2.2.1 = true := by decide +kernel
theorem pm_cw175 : pm_has (.code (pm_my 175) (pm_mb 175) (pm_ml 175) (pm_mr 175)) (pm_m 175).2.2.2.2.2.2.1 = true := by decide +kernel
theorem pm_cw176 : pm_has (.code (pm_my 176) (pm_mb 176) (pm_ml 176) (pm_mr 176)) (pm_m 176).2.2.2.2.2.2.1 = true := by decide +kernel
theorem pm_cw177 : pm_has (.code (pm_my 177) (pm_mb 177) (pm_ml 177) (pm_mr 177)) (pm_m 177).2.2.2.2.2.2.1 = true := by decide +kernel
theorem pm_cw178 : pm_has (.code (pm_my 178) (pm_mb 178) (pm_ml 178) (pm_mr 178)) (pm_m 178).2.2.2.2.2.2.1 = true := by decide +kernel
theorem pm_cw179 : pm_has (.code (pm_my 179) (pm_mb 179) (pm_ml 179) (pm_mr 179)) (pm_m 179).2.2.2.2.2.2.1 = true := by decide +kernel
theorem pm_cw180 : pm_has (.code (pm_my 180) (pm_mb 180) (pm_ml 180) (pm_mr 180)) (pm_m 180).2.2.2.2.2.2.1 = true := by decide +kernel
theorem pm_cw181 : pm_has (.code (pm_my 181) (pm_mb 181) (pm_ml 181) (pm_mr 181)) (pm_m 181).2.2.2.2.2.2.1 = true := by decide +kernel
theorem pm_cw182 : pm_has (.code (pm_my 182) (pm_mb 182) (pm_ml 182) (pm_mr 182)) (pm_m 182).2.2.2.2.2.2.1 = true := by decide +kernel
theorem pm_cw183 : pm_has (.code (pm_my 183) (pm_mb 183) (pm_ml 183) (pm_mr 183)) (pm_m 183).2.2.2.2.2.2.1 = true := by decide +kernel
theorem pm_cw184 : pm_has (.code (pm_my 184) (pm_mb 184) (pm_ml 184) (pm_mr 184)) (pm_m 184).2.2.2.2.2.2.1 = true := by decide +kernel
theorem pm_cw185 : pm_has (.code (pm_my 185) (pm_mb 185) (pm_ml 185) (pm_mr 185)) (pm_m 185).2.2.2.2.2.2.1 = true := by decide +kernel
theorem pm_cw186 : pm_has (.code (pm_my 186) (pm_mb 186) (pm_ml 186) (pm_mr 186)) (pm_m 186).2.2.2.2.2.2.1 = true := by decide +kernel
theorem pm_cw187 : pm_has (.code (pm_my 187) (pm_mb 187) (pm_ml 187) (pm_mr 187)) (pm_m 187).2.2.2.2.2.2.1 = true := by decide +kernel
theorem pm_cw188 : pm_has (.code (pm_my 188) (pm_mb 188) (pm_ml 188) (pm_mr 188)) (pm_m 188).2.2.2.2.2.2.1 = true := by decide +kernel
theorem pm_cw189 : pm_has (.code (pm_my 189) (pm_mb 189) (pm_ml 189) (pm_mr 189)) (pm_m 189).2.2.2.2.2.2.1 = true := by decide +kernel
theorem pm_cw190 : pm_has (.code (pm_my 190) (pm_mb 190) (pm_ml 190) (pm_mr 190)) (pm_m 190).2.2.2.2.2.2.1 = true := by decide +kernel
theorem pm_cw191 : pm_has (.code (pm_my 191) (pm_mb 191) (pm_ml 191) (pm_mr 191)) (pm_m 191).2.2.2.2.2.2.1 = true := by decide +kernel
theorem pm_cw192 : pm_has (.code (pm_my 192) (pm_mb 192) (pm_ml 192) (pm_mr 192)) (pm_m 192).2.2.2.2.2.2.1 = true := by decide +kernel
theorem pm_cw193 : pm_has (.code (pm_my 193) (pm_mb 193) (pm_ml 193) (pm_mr 193)) (pm_m 193).2.2.2.2.2.2.1 = true := by decide +kernel
theorem pm_cw194 : pm_has (.code (pm_my 194) (pm_mb 194) (pm_ml 194) (pm_mr 194)) (pm_m 194).2.2.2.2.2.2.1 = true := by decide +kernel
theorem pm_cw195 : pm_has (.code (pm_my 195) (pm_mb 195) (pm_ml 195) (pm_mr 195)) (pm_m 195).2.2.2.2.2.2.1 = true := by decide +kernel
theorem pm_cw196 : pm_has (.code (pm_my 196) (pm_mb 196) (pm_ml 196) (pm_mr 196)) (pm_m 196).2.2.2.2.2.2.1 = true := by decide +kernel
theorem pm_cw197 : pm_has (.code (pm_my 197) (pm_mb 197) (pm_ml 197) (pm_mr 197)) (pm_m 197).2.2.2.2.2.2.1 = true := by decide +kernel
theorem pm_cw198 : pm_has (.code (pm_my 198) (pm_mb 198) (pm_ml 198) (pm_mr 198)) (pm_m 198).2.2.2.2.2.2.1 = true := by decide +kernel
theorem pm_cw199 : pm_has (.code (pm_my 199) (pm_mb 199) (pm_ml 199) (pm_mr 199)) (pm_m 199).2.2.2.2.2.2.1 = true := by decide +kernel
theorem pm_cw200 : pm_has (.code (pm_my 200) (pm_mb 200) (pm_ml 200) (pm_mr 200)) (pm_m 200).2.2.2.2.2.2.1 = true := by decide +kernel
theorem pm_cw201 : pm_has (.code (pm_my 201) (pm_mb 201) (pm_ml 201) (pm_mr 201)) (pm_m 201).2.2.2.2.2.2.1 = true := by decide +kernel
theorem pm_cw202 : pm_has (.code (pm_my 202) (pm_mb 202) (pm_ml 202) (pm_mr 202)) (pm_m 202).2.2.2.2.2.2.1 = true := by decide +kernel
theorem pm_cw203 : pm_has (.code (pm_my 203) (pm_mb 203) (pm_ml 203) (pm_mr 203)) (pm_m 203).2.2.2.2.2.2.1 = true := by decide +kernel
theorem pm_cw204 : pm_has (.code (pm_my 204) (pm_mb 204) (pm_ml 204) (pm_mr 204)) (pm_m 204).2.2.2.2.2.2.1 = true := by decide +kernel
theorem pm_cw205 : pm_has (.code (pm_my 205) (pm_mb 205) (pm_ml 205) (pm_mr 205)) (pm_m 205).2.2.2.2.2.2.1 = true := by decide +kernel
theorem pm_cw206 : pm_has (.code (pm_my 206) (pm_mb 206) (pm_ml 206) (pm_mr 206)) (pm_m 206).2.2.2.2.2.2.1 = true := by decide +kernel
theorem pm_cw207 : pm_has (.code (pm_my 207) (pm_mb 207) (pm_ml 207) (pm_mr 207)) (pm_m 207).2.2.2.2.2.2.1 = true := by decide +kernel
theorem pm_cw208 : pm_has (.code (pm_my 208) (pm_mb 208) (pm_ml 208) (pm_mr 208)) (pm_m 208).2.2.2.2.2.2.1 = true := by decide +kernel
theorem pm_cw209 : pm_has (.code (pm_my 209) (pm_mb 209) (pm_ml 209) (pm_mr 209)) (pm_m 209).2.2.2.2.2.2.1 = true := by decide +kernel
theorem pm_cw210 : pm_has (.code (pm_my 210) (pm_mb 210) (pm_ml 210) (pm_mr 210)) (pm_m 210).2.2.2.2.2.2.1 = true := by decide +kernel
def pm_cwP (i : Nat) : Prop := pm_has (.code (pm_my i) (pm_mb i) (pm_ml i) (pm_mr i)) (pm_m i).2.2.2.2.2.2.1 = true
theorem pm_cws30 (h : ∀ a, a < 0 → pm_cwP a) : ∀ a, a < 30 → pm_cwP a := (lt_s (lt_s (lt_s (lt_s (lt_s (lt_s (lt_s (lt_s (lt_s (lt_s (lt_s (lt_s (lt_s (lt_s (lt_s (lt_s (lt_s (lt_s (lt_s (lt_s (lt_s (lt_s (lt_s (lt_s (lt_s (lt_s (lt_s (lt_s (lt_s (lt_s h pm_cw0) pm_cw1) pm_cw2) pm_cw3) pm_cw4) pm_cw5) pm_cw6) pm_cw7) pm_cw8) pm_cw9) pm_cw10) pm_cw11) pm_cw12) pm_cw13) pm_cw14) pm_cw15) pm_cw16) pm_cw17) pm_cw18) pm_cw19) pm_cw20) pm_cw21) pm_cw22) pm_cw23) pm_cw24) pm_cw25) pm_cw26) pm_cw27) pm_cw28) pm_cw29)
theorem pm_cws60 (h : ∀ a, a < 30 → pm_cwP a) : ∀ a, a < 60 → pm_cwP a := (lt_s (lt_s (lt_s (lt_s (lt_s (lt_s (lt_s (lt_s (lt_s (lt_s (lt_s (lt_s (lt_s (lt_s (lt_s (lt_s (lt_s (lt_s (lt_s (lt_s (lt_s (lt_s (lt_s (lt_s (lt_s (lt_s (lt_s (lt_s (lt_s (lt_s h pm_cw30) pm_cw31) pm_cw32) pm_cw33) pm_cw34) pm_cw35) pm_cw36) pm_cw37) pm_cw38) pm_cw39) pm_cw40) pm_cw41) pm_cw42) pm_cw43) pm_cw44) pm_cw45) pm_cw46) pm_cw47) pm_cw48) pm_cw49) pm_cw50) pm_cw51) pm_cw52) pm_cw53) pm_cw54) pm_cw55) pm_cw56) pm_cw57) pm_cw58) pm_cw59)
theorem pm_cws90 (h : ∀ a, a < 60 → pm_cwP a) : ∀ a, a < 90 → pm_cwP a := (lt_s (lt_s (lt_s (lt_s (lt_s (lt_s (lt_s (lt_s (lt_s (lt_s (lt_s (lt_s (lt_s (lt_s (lt_s (lt_s (lt_s (lt_s (lt_s (lt_s (lt_s (lt_s (lt_s (lt_s (lt_s (lt_s (lt_s (lt_s (lt_s (lt_s h pm_cw60) pm_cw61) pm_cw62) pm_cw63) pm_cw64) pm_cw65) pm_cw66) pm_cw67) pm_cw68) pm_cw69) pm_cw70) pm_cw71) pm_cw72) pm_cw73) pm_cw74) pm_cw75) pm_cw76) pm_cw77) pm_cw78) pm_cw79) pm_cw80) pm_cw81) pm_cw82) pm_cw83) pm_cw84) pm_cw85) pm_cw86) pm_cw87) pm_cw88) pm_cw89)
theorem pm_cws120 (h : ∀ a, a < 90 → pm_cwP a) : ∀ a, a < 120 → pm_cwP a := (lt_s (lt_s (lt_s (lt_s (lt_s (lt_s (lt_s (lt_s (lt_s (lt_s (lt_s (lt_s (lt_s (lt_s (lt_s (lt_s (lt_s (lt_s (lt_s (lt_s (lt_s (lt_s (lt_s (lt_s (lt_s (lt_s (lt_s (lt_s (lt_s (lt_s h pm_cw90) pm_cw91) pm_cw92) pm_cw93) pm_cw94) pm_cw95) pm_cw96) pm_cw97) pm_cw98) pm_cw99) pm_cw100) pm_cw101) pm_cw102) pm_cw103) pm_cw104) pm_cw105) pm_cw106) pm_cw107) pm_cw108) pm_cw109) pm_cw110) pm_cw111) pm_cw112) pm_cw113) pm_cw114) pm_cw115) pm_cw116) pm_cw117) pm_cw118) pm_cw119)
theorem pm_cws150 (h : ∀ a, a < 120 → pm_cwP a) : ∀ a, a < 150 → pm_cwP a := (lt_s (lt_s (lt_s (lt_s (lt_s (lt_s (lt_s (lt_s (lt_s (lt_s (lt_s (lt_s (lt_s (lt_s (lt_s (lt_s (lt_s (lt_s (lt_s (lt_s (lt_s (lt_s (lt_s (lt_s (lt_s (lt_s (lt_s (lt_s (lt_s (lt_s h pm_cw120) pm_cw121) pm_cw122) pm_cw123) pm_cw124) pm_cw125) pm_cw126) pm_cw127) pm_cw128) pm_cw129) pm_cw130) pm_cw131) pm_cw132) pm_cw133) pm_cw134) pm_cw135) pm_cw136) pm_cw137) pm_cw138) pm_cw139) pm_cw140) pm_cw141) pm_cw142) pm_cw143) pm_cw144) pm_cw145) pm_cw146) pm_cw147) pm_cw148) pm_cw149)
theorem pm_cws180 (h : ∀ a, a < 150 → pm_cwP a) : ∀ a, a < 180 → pm_cwP a := (lt_s (lt_s (lt_s (lt_s (lt_s (lt_s (lt_s (lt_s (lt_s (lt_s (lt_s (lt_s (lt_s (lt_s (lt_s (lt_s (lt_s (lt_s (lt_s (lt_s (lt_s (lt_s (lt_s (lt_s (lt_s (lt_s (lt_s (lt_s (lt_s (lt_s h pm_cw150) pm_cw151) pm_cw152) pm_cw153) pm_cw154) pm_cw155) pm_cw156) pm_cw157) pm_cw158) pm_cw159) pm_cw160) pm_cw161) pm_cw162) pm_cw163) pm_cw164) pm_cw165) pm_cw166) pm_cw167) pm_cw168) pm_cw169) pm_cw170) pm_cw171) pm_cw172) pm_cw173) pm_cw174) pm_cw175) pm_cw176) pm_cw177) pm_cw178) pm_cw179)
theorem pm_cws210 (h : ∀ a, a < 180 → pm_cwP a) : ∀ a, a < 210 → pm_cwP a := (lt_s (lt_s (lt_s (lt_s (lt_s (lt_s (lt_s (lt_s (lt_s (lt_s (lt_s (lt_s (lt_s (lt_s (lt_s (lt_s (lt_s (lt_s (lt_s (lt_s (lt_s (lt_s (lt_s (lt_s (lt_s (lt_s (lt_s (lt_s (lt_s (lt_s h pm_cw180) pm_cw181) pm_cw182) pm_cw183) pm_cw184) pm_cw185) pm_cw186) pm_cw187) pm_cw188) pm_cw189) pm_cw190) pm_cw191) pm_cw192) pm_cw193) pm_cw194) pm_cw195) pm_cw196) pm_cw197) pm_cw198) pm_cw199) pm_cw200) pm_cw201) pm_cw202) pm_cw203) pm_cw204) pm_cw205) pm_cw206) pm_cw207) pm_cw208) pm_cw209)
theorem pm_cws211 (h : ∀ a, a < 210 → pm_cwP a) : ∀ a, a < 211 → pm_cwP a := (lt_s h pm_cw210)
theorem pm_cw : ∀ a, a < pm_mt.length - 1 → pm_cwP a := by
  rw [show pm_mt.length - 1 = 211 by decide +kernel]
  exact (pm_cws211 (pm_cws210 (pm_cws180 (pm_cws150 (pm_cws120 (pm_cws90 (pm_cws60 (pm_cws30 lt_0))))))))
theorem pm_minW : pm_has (.code Lib.Math.min.name Lib.Math.min.code 2 (some .int)) 704 = true := by decide +kernel
theorem pm_absW : pm_has (.code Lib.Math.abs.name Lib.Math.abs.code 1 (some .int)) 697 = true := by decide +kernel
end
section
/-! THE SMALL MACHINE. Cells have numbers; what a cell is stands in g.1 (class, or 8 ints, 9 bytes, 10 booleans, 11 references; length), its references in g.2.1, its numbers in iv. -/
abbrev pm_G : Type := (Nat → Option (Nat × Nat)) × (Nat → Nat → Option Nat) × Nat × Nat × Nat
abbrev pm_V : Type := Nat → Nat → Int32
abbrev pm_S : Type := Nat × List (Option Value) × List Value × pm_G × pm_V
abbrev pm_R : Type := Option Value × pm_G × pm_V
abbrev pm_X : Type := Nat × (Nat → Int32)
abbrev pm_O : Type := Option (pm_S ⊕ pm_R)
abbrev pm_C : Type := Nat → List Value → pm_G → pm_V → Option pm_R
def pm_go (pc : Nat) (lo : List (Option Value)) (st : List Value) (g : pm_G) (iv : pm_V) : pm_O := some (.inl (pc, lo, st, g, iv))
def pm_ifn (c : Prop) [Decidable c] (x : pm_O) : pm_O := if c then x else none
/-- a number is put into a cell -/
def pm_iw (iv : pm_V) (a i : Nat) (x : Int32) : pm_V := fun k => if k = a then upd (iv a) i x else iv k
/-- a cell's numbers are all put anew -/
def pm_ir (iv : pm_V) (a : Nat) (f : Nat → Int32) : pm_V := fun k => if k = a then f else iv k
def pm_rw (r : Nat → Nat → Option Nat) (a i : Nat) (x : Option Nat) : Nat → Nat → Option Nat := fun k => if k = a then va_up (r a) i x else r k
/-- an array that nobody writes -/
def pm_xs (a : Nat) : Option (Nat × Nat × (Nat → Int32)) := match pm_sb[a - 1100]? with
  | some t => if 1100 ≤ a then some (9, t.length, fun j => t.getD j 0) else none
  | none => none
def pm_xa (X : pm_X) (a : Nat) : Option (Nat × Nat × (Nat → Int32)) :=
  if a = 1300 then some (8, X.1, X.2)
  else match pm_tb[a - 1200]? with
    | some t => if 1200 ≤ a then some (8, t.2.length, fun j => t.2.getD j 0) else pm_xs a
    | none => pm_xs a
def pm_ar (X : pm_X) (g : pm_G) (iv : pm_V) (a : Nat) : Option (Nat × Nat × (Nat → Int32)) := match g.1 a with
  | some (q, n) => if 8 ≤ q then some (q, n, iv a) else none
  | none => if 1000 ≤ a then pm_xa X a else none
/-- what an object's field holds -/
def pm_ov (g : pm_G) (iv : pm_V) (ci a sl : Nat) : Value := if pm_rf ci sl = true then va_rf (g.2.1 a sl) else .int (iv a sl)
def pm_cs (st : List Value) : Nat := (st.map fun v => v.category).sum
def pm_c2 (lo : List (Option Value)) (i : Nat) : Bool := match lo[i]? with
  | some (some v) => v.category == 2
  | _ => false
/-- a local of one word -/
def pm_s1 (lo : List (Option Value)) (i : Nat) (v : Value) : Option (List (Option Value)) := if i < lo.length ∧ (i = 0 ∨ pm_c2 lo (i - 1) = false) then some (lo.set i (some v)) else none
/-- a local of two words -/
def pm_s2 (lo : List (Option Value)) (i : Nat) (v : Value) : Option (List (Option Value)) := if i + 1 < lo.length ∧ (i = 0 ∨ pm_c2 lo (i - 1) = false) ∧ pm_c2 lo (i + 1) = false then some ((lo.set i (some v)).set (i + 1) none) else none
def pm_ea : List Value → List (Option Value)
  | [] => []
  | v :: r => if v.category = 2 then some v :: none :: pm_ea r else some v :: pm_ea r
def pm_en (args : List Value) (n : Nat) : List (Option Value) := pm_ea args ++ List.replicate (n - (pm_ea args).length) none
section PMI
variable (X : pm_X) (cal : pm_C) (mi pc : Nat) (lo : List (Option Value)) (st : List Value) (g : pm_G) (iv : pm_V)
def pm_psh (n : Nat) (v : Value) : pm_O := pm_go (pc + n) lo (v :: st) g iv
def pm_ldI (n i : Nat) : pm_O := match lo[i]? with
  | some (some (.int x)) => pm_go (pc + n) lo (.int x :: st) g iv
  | _ => none
def pm_ldL (n i : Nat) : pm_O := match lo[i]? with
  | some (some (.long x)) => pm_go (pc + n) lo (.long x :: st) g iv
  | _ => none
def pm_ldA (n i : Nat) : pm_O := match lo[i]? with
  | some (some (.ref x)) => pm_go (pc + n) lo (.ref x :: st) g iv
  | some (some .null) => pm_go (pc + n) lo (.null :: st) g iv
  | some (some (.retAddr x)) => pm_go (pc + n) lo (.retAddr x :: st) g iv
  | _ => none
def pm_stI (n i : Nat) : pm_O := match st with
  | .int x :: r => match pm_s1 lo i (.int x) with
    | some lo' => pm_go (pc + n) lo' r g iv
    | none => none
  | _ => none
def pm_stA (n i : Nat) : pm_O := match st with
  | .ref x :: r => match pm_s1 lo i (.ref x) with
    | some lo' => pm_go (pc + n) lo' r g iv
    | none => none
  | .null :: r => match pm_s1 lo i .null with
    | some lo' => pm_go (pc + n) lo' r g iv
    | none => none
  | _ => none
def pm_stL (n i : Nat) : pm_O := match st with
  | .long x :: r => match pm_s2 lo i (.long x) with
    | some lo' => pm_go (pc + n) lo' r g iv
    | none => none
  | _ => none
def pm_i1 (f : Int32 → Int32) : pm_O := match st with
  | .int x :: r => pm_go (pc + 1) lo (.int (f x) :: r) g iv
  | _ => none
def pm_i2 (f : Int32 → Int32 → Int32) : pm_O := match st with
  | .int y :: .int x :: r => pm_go (pc + 1) lo (.int (f x y) :: r) g iv
  | _ => none
def pm_d2 (f : Int32 → Int32 → Int32) : pm_O := match st with
  | .int y :: .int x :: r => pm_ifn (y ≠ 0) (pm_go (pc + 1) lo (.int (f x y) :: r) g iv)
  | _ => none
def pm_l2 (f : Int64 → Int64 → Int64) : pm_O := match st with
  | .long y :: .long x :: r => pm_go (pc + 1) lo (.long (f x y) :: r) g iv
  | _ => none
def pm_ls2 (f : Int64 → Int32 → Int64) : pm_O := match st with
  | .int y :: .long x :: r => pm_go (pc + 1) lo (.long (f x y) :: r) g iv
  | _ => none
def pm_lc : pm_O := match st with
  | .long y :: .long x :: r => pm_go (pc + 1) lo (.int (lg_cmp x y) :: r) g iv
  | _ => none
def pm_il (f : Int32 → Int64) : pm_O := match st with
  | .int x :: r => pm_go (pc + 1) lo (.long (f x) :: r) g iv
  | _ => none
def pm_li (f : Int64 → Int32) : pm_O := match st with
  | .long x :: r => pm_go (pc + 1) lo (.int (f x) :: r) g iv
  | _ => none
def pm_jmp (off : Int) (r : List Value) : pm_O := pm_ifn (0 ≤ (pc : Int) + off) (pm_go ((pc : Int) + off).toNat lo r g iv)
def pm_br1 (c : Int32 → Bool) (off : Int) : pm_O := match st with
  | .int x :: r => pm_ifn (0 ≤ (pc : Int) + off) (if c x = true then pm_go ((pc : Int) + off).toNat lo r g iv else pm_go (pc + 3) lo r g iv)
  | _ => none
def pm_br2 (c : Int32 → Int32 → Bool) (off : Int) : pm_O := match st with
  | .int y :: .int x :: r => pm_ifn (0 ≤ (pc : Int) + off) (if c x y = true then pm_go ((pc : Int) + off).toNat lo r g iv else pm_go (pc + 3) lo r g iv)
  | _ => none
def pm_cd1 (c : ClassFile.Cond) (x : Int32) : Bool := match c with
  | .eq => decide (x = 0) | .ne => decide (¬ x = 0) | .lt => decide (x < 0) | .ge => decide (0 ≤ x) | .gt => decide (0 < x) | .le => decide (x ≤ 0)
def pm_cd2 (c : ClassFile.Cond) (x y : Int32) : Bool := match c with
  | .eq => decide (x = y) | .ne => decide (¬ x = y) | .lt => decide (x < y) | .ge => decide (y ≤ x) | .gt => decide (y < x) | .le => decide (x ≤ y)
def pm_nn (off : Int) : pm_O := match st with
  | .ref _ :: r => pm_jmp pc lo g iv off r
  | .null :: r => pm_go (pc + 3) lo r g iv
  | _ => none
def pm_tsw (d l h : Int) (offs : Array Int) : pm_O := match st with
  | .int x :: r => if x.toInt < l ∨ h < x.toInt then pm_jmp pc lo g iv d r else match offs[(x.toInt - l).toNat]? with
    | some o => pm_jmp pc lo g iv o r
    | none => none
  | _ => none
def pm_lsw (d : Int) (ps : Array (Int × Int)) : pm_O := match st with
  | .int x :: r => pm_ifn ((ps.toList.zip (ps.toList.drop 1)).all (fun (a, next) => a.1 < next.1) = true) (pm_jmp pc lo g iv (Op.lookupswitch.offset ps.toList d x.toInt) r)
  | _ => none
def pm_inc (i : Nat) (n : Int) : pm_O := match lo[i]? with
  | some (some (.int x)) => match pm_s1 lo i (.int (x + Int32.ofInt n)) with
    | some lo' => pm_go (pc + 3) lo' st g iv
    | none => none
  | _ => none
def pm_gf (idx : Nat) : pm_O := match st with
  | .ref a :: r => match pm_lft.lookup (pm_mc mi, idx) with
    | some (ci, sl, _) => if ci = 100 then pm_ifn (1000 ≤ a ∧ a < 1008) (pm_go (pc + 3) lo ((if sl = 0 then .ref (a + 100) else .int 0) :: r) g iv)
      else pm_ifn (g.1 a = some (ci, 0) ∧ ci < 7 ∧ sl < pm_nf ci) (pm_go (pc + 3) lo (pm_ov g iv ci a sl :: r) g iv)
    | none => none
  | _ => none
def pm_pf (idx : Nat) : pm_O := match st with
  | v :: .ref a :: r => match pm_lft.lookup (pm_mc mi, idx) with
    | some (ci, sl, _) => pm_ifn (g.1 a = some (ci, 0) ∧ ci < 7 ∧ sl < pm_nf ci ∧ (pm_ff ci sl = false ∨ (pm_mk mi = 2 ∧ pm_mc mi = ci))) (match v with
      | .int x => pm_ifn (pm_rf ci sl = false) (pm_go (pc + 3) lo r g (pm_iw iv a sl x))
      | .ref t => pm_ifn (pm_rf ci sl = true) (pm_go (pc + 3) lo r (g.1, pm_rw g.2.1 a sl (some t), g.2.2) iv)
      | _ => none)
    | none => none
  | _ => none
def pm_gs (idx : Nat) : pm_O := match pm_lst.lookup (pm_mc mi, idx) with
  | some (k, _) => pm_go (pc + 3) lo ((if k < 3 then .ref (1200 + k) else if k = 3 then .int 1 else .retAddr 0) :: st) g iv
  | none => none
def pm_aln : pm_O := match st with
  | .ref a :: r => match pm_ar X g iv a with
    | some (q, n, _) => pm_ifn (n < 2147483648) (pm_go (pc + 1) lo (.int (Int32.ofNat n) :: r) g iv)
    | none => none
  | _ => none
def pm_ald (b : Bool) : pm_O := match st with
  | .int i :: .ref a :: r => match pm_ar X g iv a with
    | some (q, n, f) => pm_ifn ((if b then q = 8 else q = 9 ∨ q = 10) ∧ ¬ (i < 0 ∨ n ≤ i.toNatClampNeg)) (pm_go (pc + 1) lo (.int (f i.toNatClampNeg) :: r) g iv)
    | none => none
  | _ => none
def pm_ast (b : Bool) : pm_O := match st with
  | .int x :: .int i :: .ref a :: r => match g.1 a with
    | some (q, n) => pm_ifn ((if b then q = 8 else q = 9 ∨ q = 10) ∧ ¬ (i < 0 ∨ n ≤ i.toNatClampNeg)) (pm_go (pc + 1) lo r g (pm_iw iv a i.toNatClampNeg (if q = 8 then x else if q = 9 then vp_nar .byte x else vp_nar .boolean x)))
    | none => none
  | _ => none
def pm_aal : pm_O := match st with
  | .int i :: .ref a :: r => match g.1 a with
    | some (q, n) => pm_ifn (q = 11 ∧ ¬ (i < 0 ∨ n ≤ i.toNatClampNeg)) (pm_go (pc + 1) lo (va_rf (g.2.1 a i.toNatClampNeg) :: r) g iv)
    | none => none
  | _ => none
def pm_aas : pm_O := match st with
  | .ref t :: .int i :: .ref a :: r => match g.1 a with
    | some (q, n) => pm_ifn (q = 11 ∧ g.1 t = some (3, 0) ∧ ¬ (i < 0 ∨ n ≤ i.toNatClampNeg)) (pm_go (pc + 1) lo r (g.1, pm_rw g.2.1 a i.toNatClampNeg (some t), g.2.2) iv)
    | none => none
  | _ => none
/-- a new cell: the next number -/
def pm_nc (q n k : Nat) : pm_G := ((fun j => if j = g.2.2.1 then some (q, n) else g.1 j), (fun j => if j = g.2.2.1 then fun _ => none else g.2.1 j), g.2.2.1 + 1, g.2.2.2.1 + 1, g.2.2.2.2 + k)
def pm_new (idx : Nat) : pm_O := match pm_lct.lookup (pm_mc mi, idx) with
  | some (ci, _) => pm_ifn (g.1 g.2.2.1 = none ∧ g.2.2.1 < 1000) (pm_go (pc + 3) lo (.ref g.2.2.1 :: st) (pm_nc g ci 0 (pm_nf ci)) (pm_ir iv g.2.2.1 (fun _ => 0)))
  | none => none
def pm_aq (t : ArrayType) : Nat := match t with
  | .int => 8 | .byte => 9 | .boolean => 10 | _ => 0
def pm_nwa (t : ArrayType) : pm_O := match st with
  | .int n :: r => pm_ifn (g.1 g.2.2.1 = none ∧ g.2.2.1 < 1000 ∧ 8 ≤ pm_aq t ∧ ¬ n < 0 ∧ n.toNatClampNeg ≤ 1000000) (pm_go (pc + 2) lo (.ref g.2.2.1 :: r) (pm_nc g (pm_aq t) n.toNatClampNeg n.toNatClampNeg) (pm_ir iv g.2.2.1 (fun _ => 0)))
  | _ => none
def pm_ana (idx : Nat) : pm_O := match st with
  | .int n :: r => match pm_lct.lookup (pm_mc mi, idx) with
    | some (ci, _) => pm_ifn (ci = 3 ∧ g.1 g.2.2.1 = none ∧ g.2.2.1 < 1000 ∧ ¬ n < 0 ∧ n.toNatClampNeg ≤ 1000000) (pm_go (pc + 3) lo (.ref g.2.2.1 :: r) (pm_nc g 11 n.toNatClampNeg n.toNatClampNeg) (pm_ir iv g.2.2.1 (fun _ => 0)))
    | none => none
  | _ => none
def pm_kI (n idx : Nat) : pm_O := match pm_lkt.lookup (pm_mc mi, idx) with
  | some (v, _) => pm_go (pc + n) lo (.int v :: st) g iv
  | none => none
def pm_kL (idx : Nat) : pm_O := match pm_llt.lookup (pm_mc mi, idx) with
  | some (v, _) => pm_go (pc + 3) lo (.long v :: st) g iv
  | none => none
def pm_kS (idx : Nat) : pm_O := match pm_ltt.lookup (pm_mc mi, idx) with
  | some i => pm_go (pc + 2) lo (.ref (1000 + i) :: st) g iv
  | none => none
/-- behind a call -/
def pm_bk (r : List Value) (q : Option pm_R) : pm_O := match q with
  | some (v, g', iv') => pm_go (pc + 3) lo (v.toList ++ r) g' iv'
  | none => none
/-- is the cell of the class of this method? -/
def pm_rc (t b : Nat) : Prop := (g.1 b = some (pm_mc t, 0) ∧ pm_mc t < 7) ∨ (pm_mc t = 10 ∧ 1000 ≤ b ∧ b < 1008)
def pm_inv (idx : Nat) : pm_O := match pm_lmt.lookup (pm_mc mi, idx) with
  | some (0, t, n, _) => match st.drop n with
    | .ref b :: r => pm_ifn (pm_cs r ≤ 8 ∧ ((g.1 b = some (pm_mc t, 0) ∧ pm_mc t < 7) ∨ (pm_mc t = 10 ∧ 1000 ≤ b ∧ b < 1008))) (pm_bk pc lo r (cal t (.ref b :: (st.take n).reverse) g iv))
    | _ => none
  | _ => none
def pm_ins (idx : Nat) : pm_O := match pm_lmt.lookup (pm_mc mi, idx) with
  | some (1, t, n, _) => pm_ifn (n ≤ st.length ∧ pm_cs (st.drop n) ≤ 8) (pm_bk pc lo (st.drop n) (cal t (st.take n).reverse g iv))
  | some (3, t, n, _) => pm_ifn (n ≤ st.length ∧ pm_cs (st.drop n) ≤ 8) (pm_bk pc lo (st.drop n) (cal t (st.take n).reverse g iv))
  | some (6, _, _, _) => match st with
    | .int n :: .int dp :: .ref a :: .int sp :: .ref a0 :: r => match g.1 a0, g.1 a with
      | some (q0, n0), some (q1, n1) => pm_ifn (pm_cs r ≤ 8 ∧ q0 = 8 ∧ q1 = 8 ∧ ¬ sp < 0 ∧ ¬ dp < 0 ∧ ¬ n < 0 ∧ sp.toNatClampNeg + n.toNatClampNeg ≤ n0 ∧ dp.toNatClampNeg + n.toNatClampNeg ≤ n1) (pm_go (pc + 3) lo r g (pm_ir iv a (va_cpy (iv a0) (iv a) sp.toNatClampNeg dp.toNatClampNeg n.toNatClampNeg)))
      | _, _ => none
    | _ => none
  | some (7, _, _, _) => match st with
    | .int y :: .int x :: r => pm_ifn (pm_cs r ≤ 8) (pm_go (pc + 3) lo (.int (if y < x then y else x) :: r) g iv)
    | _ => none
  | some (8, _, _, _) => match st with
    | .int x :: r => pm_ifn (pm_cs r ≤ 8) (pm_go (pc + 3) lo (.int (if 0 ≤ x then x else 0 - x) :: r) g iv)
    | _ => none
  | _ => none
def pm_isp (idx : Nat) : pm_O := match pm_lmt.lookup (pm_mc mi, idx) with
  | some (2, t, n, _) => match st.drop n with
    | .ref b :: r => pm_ifn (pm_cs r ≤ 8) (pm_bk pc lo r (cal t (.ref b :: (st.take n).reverse) g iv))
    | _ => none
  | some (4, t, n, _) => match st.drop n with
    | .ref b :: r => pm_ifn (pm_cs r ≤ 8) (pm_bk pc lo r (cal t (.ref b :: (st.take n).reverse) g iv))
    | _ => none
  | some (5, _, _, _) => match st with
    | .ref _ :: r => pm_ifn (pm_cs r ≤ 8) (pm_go (pc + 3) lo r g iv)
    | _ => none
  | _ => none
def pm_ri : pm_O := match st with
  | [.int v] => match pm_mr mi with
    | some ty => pm_ifn (narrow ty (.int v) = .int v) (some (.inr (some (.int v), g, iv)))
    | none => none
  | _ => none
def pm_rl : pm_O := match st with
  | [.long v] => pm_ifn (pm_mr mi = some .long) (some (.inr (some (.long v), g, iv)))
  | _ => none
def pm_rv : pm_O := match st with
  | [] => pm_ifn (pm_mr mi = none) (some (.inr (none, g, iv)))
  | _ => none
def pm_dup : pm_O := match st with
  | v :: r => pm_ifn (v.category = 1) (pm_go (pc + 1) lo (v :: v :: r) g iv)
  | _ => none
def pm_dp2 : pm_O := match st with
  | v :: w :: r => pm_ifn (v.category = 1 ∧ w.category = 1) (pm_go (pc + 1) lo (v :: w :: v :: w :: r) g iv)
  | _ => none
def pm_pop : pm_O := match st with
  | v :: r => pm_ifn (v.category = 1) (pm_go (pc + 1) lo r g iv)
  | _ => none
/-- one instruction -/
def pm_i (ins : Instr) : pm_O := match ins with
  | .iconst n => pm_psh pc lo st g iv 1 (.int (Int32.ofInt n))
  | .bipush n => pm_psh pc lo st g iv 2 (.int (Int8.ofInt n).toInt32)
  | .sipush n => pm_psh pc lo st g iv 3 (.int (Int16.ofInt n).toInt32)
  | .lconst n => pm_psh pc lo st g iv 1 (.long (Int64.ofNat (n : Nat)))
  | .iload_n k => pm_ldI pc lo st g iv 1 k
  | .iload k => pm_ldI pc lo st g iv 2 k
  | .lload_n k => pm_ldL pc lo st g iv 1 k
  | .lload k => pm_ldL pc lo st g iv 2 k
  | .aload_n k => pm_ldA pc lo st g iv 1 k
  | .istore_n k => pm_stI pc lo st g iv 1 k
  | .istore k => pm_stI pc lo st g iv 2 k
  | .astore_n k => pm_stA pc lo st g iv 1 k
  | .lstore_n k => pm_stL pc lo st g iv 1 k
  | .iinc i n => pm_inc pc lo st g iv i n
  | .iadd => pm_i2 pc lo st g iv (fun x y => x + y)
  | .isub => pm_i2 pc lo st g iv (fun x y => x - y)
  | .imul => pm_i2 pc lo st g iv (fun x y => x * y)
  | .iand => pm_i2 pc lo st g iv (fun x y => x &&& y)
  | .ior => pm_i2 pc lo st g iv (fun x y => x ||| y)
  | .ixor => pm_i2 pc lo st g iv (fun x y => x ^^^ y)
  | .ishl => pm_i2 pc lo st g iv (fun x y => x <<< (y &&& 31))
  | .ishr => pm_i2 pc lo st g iv (fun x y => x >>> (y &&& 31))
  | .iushr => pm_i2 pc lo st g iv (fun x y => (x.toUInt32 >>> (y.toUInt32 &&& Int32.toUInt32 31)).toInt32)
  | .idiv => pm_d2 pc lo st g iv (fun x y => x / y)
  | .irem => pm_d2 pc lo st g iv (fun x y => x - x / y * y)
  | .ineg => pm_i1 pc lo st g iv (fun x => -x)
  | .i2b => pm_i1 pc lo st g iv (fun x => x.toInt8.toInt32)
  | .i2s => pm_i1 pc lo st g iv (fun x => x.toInt16.toInt32)
  | .i2c => pm_i1 pc lo st g iv (fun x => (x.toUInt32 % 65536).toInt32)
  | .i2l => pm_il pc lo st g iv (fun x => x.toInt64)
  | .l2i => pm_li pc lo st g iv (fun x => x.toInt32)
  | .ladd => pm_l2 pc lo st g iv (fun x y => x + y)
  | .land => pm_l2 pc lo st g iv (fun x y => x &&& y)
  | .lor => pm_l2 pc lo st g iv (fun x y => x ||| y)
  | .lshl => pm_ls2 pc lo st g iv (fun x y => x <<< (y.toInt64 &&& 63))
  | .lshr => pm_ls2 pc lo st g iv (fun x y => x >>> (y.toInt64 &&& 63))
  | .lcmp => pm_lc pc lo st g iv
  | .dup => pm_dup pc lo st g iv
  | .dup2 => pm_dp2 pc lo st g iv
  | .pop => pm_pop pc lo st g iv
  | .goto off => pm_jmp pc lo g iv off st
  | .ifCond c off => pm_br1 pc lo st g iv (pm_cd1 c) off
  | .if_icmp c off => pm_br2 pc lo st g iv (pm_cd2 c) off
  | .ifnonnull off => pm_nn pc lo st g iv off
  | .tableswitch d l h offs => pm_tsw pc lo st g iv d l h offs
  | .lookupswitch d ps => pm_lsw pc lo st g iv d ps
  | .getfield idx => pm_gf mi pc lo st g iv idx
  | .putfield idx => pm_pf mi pc lo st g iv idx
  | .getstatic idx => pm_gs mi pc lo st g iv idx
  | .arraylength => pm_aln X pc lo st g iv
  | .iaload => pm_ald X pc lo st g iv true
  | .baload => pm_ald X pc lo st g iv false
  | .iastore => pm_ast pc lo st g iv true
  | .bastore => pm_ast pc lo st g iv false
  | .aaload => pm_aal pc lo st g iv
  | .aastore => pm_aas pc lo st g iv
  | .new idx => pm_new mi pc lo st g iv idx
  | .newarray t => pm_nwa pc lo st g iv t
  | .anewarray idx => pm_ana mi pc lo st g iv idx
  | .ldc idx => match pm_lkt.lookup (pm_mc mi, idx) with
    | some _ => pm_kI mi pc lo st g iv 2 idx
    | none => pm_kS mi pc lo st g iv idx
  | .ldc_w idx => pm_kI mi pc lo st g iv 3 idx
  | .ldc2_w idx => pm_kL mi pc lo st g iv idx
  | .invokevirtual idx => pm_inv cal mi pc lo st g iv idx
  | .invokestatic idx => pm_ins cal mi pc lo st g iv idx
  | .invokespecial idx => pm_isp cal mi pc lo st g iv idx
  | .ireturn => pm_ri mi st g iv
  | .lreturn => pm_rl mi st g iv
  | .return_ => pm_rv mi st g iv
  | _ => none
end PMI
/-- how long an instruction is -/
def pm_len (ins : Instr) : Option Nat := match ins with
  | .iconst _ | .lconst _ | .iload_n _ | .lload_n _ | .aload_n _ | .istore_n _ | .astore_n _ | .lstore_n _ | .iadd | .isub | .imul | .iand | .ior | .ixor | .ishl | .ishr | .iushr | .idiv | .irem | .ineg | .i2b | .i2s | .i2c | .i2l | .l2i | .ladd | .land | .lor | .lshl | .lshr | .lcmp | .dup | .dup2 | .pop | .arraylength | .iaload | .baload | .iastore | .bastore | .aaload | .aastore | .ireturn | .lreturn | .return_ => some 1
  | .bipush _ | .iload _ | .lload _ | .istore _ | .newarray _ | .ldc _ => some 2
  | .tableswitch _ _ _ _ | .lookupswitch _ _ => none
  | _ => some 3
def pm_n (X : pm_X) (cal : pm_C) (mi : Nat) (S : pm_S) : pm_O := match decode (pm_mb mi) S.1 with
  | .ok (ins, len) => if pm_len ins = some len ∨ pm_len ins = none then pm_i X cal mi S.1 S.2.1 S.2.2.1 S.2.2.2.1 S.2.2.2.2 ins else none
  | .error _ => none
def pm_x (X : pm_X) (cal : pm_C) (mi : Nat) : Nat → pm_S → Option pm_R
  | 0, _ => none
  | n + 1, S => match pm_n X cal mi S with
    | none => none
    | some (.inl S') => pm_x X cal mi n S'
    | some (.inr r) => some r
noncomputable def pm_lim {α : Type} (f : Nat → Option α) : Option α := @dite _ (∃ n, (f n).isSome = true) (Classical.propDecidable _) (fun h => f (Classical.choose h)) (fun _ => none)
/-- a call at depth d -/
noncomputable def pm_c (X : pm_X) : Nat → pm_C
  | 0 => fun _ _ _ _ => none
  | d + 1 => fun mi args g iv => if (pm_ea args).length ≤ pm_ml mi then pm_lim (fun n => pm_x X (pm_c X d) mi n (0, pm_en args (pm_ml mi), [], g, iv)) else none
/-- a run from a place in a method, its calls at depth d -/
noncomputable def pm_at (X : pm_X) (d mi : Nat) (S : pm_S) : Option pm_R := pm_lim (fun n => pm_x X (pm_c X d) mi n S)
theorem pm_x_mono {X : pm_X} {cal : pm_C} {mi : Nat} {r : pm_R} : ∀ {n : Nat} {S : pm_S}, pm_x X cal mi n S = some r → ∀ {k : Nat}, n ≤ k → pm_x X cal mi k S = some r := by
  intro n
  induction n with
  | zero => intro S h; cases h
  | succ n ih =>
    intro S h k hk
    obtain ⟨j, rfl⟩ : ∃ j, k = j + 1 := ⟨k - 1, by omega⟩
    simp only [pm_x] at h ⊢
    cases hn : pm_n X cal mi S with
    | none => rw [hn] at h; cases h
    | some q =>
      rw [hn] at h
      cases q with
      | inl S' => exact ih h (by omega)
      | inr r' => exact h
theorem pm_lim_some {α : Type} {f : Nat → Option α} {r : α} (h : pm_lim f = some r) : ∃ n, f n = some r := by
  unfold pm_lim at h
  by_cases hx : ∃ n, (f n).isSome = true
  · rw [dif_pos hx] at h
    exact ⟨_, h⟩
  · rw [dif_neg hx] at h
    cases h
theorem pm_lim_of {α : Type} {f : Nat → Option α} (hm : ∀ n k r, f n = some r → n ≤ k → f k = some r) {n : Nat} {r : α} (h : f n = some r) : pm_lim f = some r := by
  have hx : ∃ n, (f n).isSome = true := ⟨n, by rw [h]; rfl⟩
  unfold pm_lim
  rw [dif_pos hx]
  obtain ⟨q, hq⟩ := Option.isSome_iff_exists.mp (Classical.choose_spec hx)
  rw [hq]
  rcases Nat.le_total n (Classical.choose hx) with a | a
  · rw [hm _ _ _ h a] at hq
    exact hq.symm
  · have := hm _ _ _ hq a
    rw [h] at this
    exact this.symm
theorem pm_at_of {X : pm_X} {d mi n : Nat} {S : pm_S} {r : pm_R} (h : pm_x X (pm_c X d) mi n S = some r) : pm_at X d mi S = some r := pm_lim_of (fun _ _ _ h1 h2 => pm_x_mono h1 h2) h
theorem pm_at_ex {X : pm_X} {d mi : Nat} {S : pm_S} {r : pm_R} (h : pm_at X d mi S = some r) : ∃ n, pm_x X (pm_c X d) mi n S = some r := pm_lim_some h
theorem pm_c_at {X : pm_X} {d mi : Nat} {args : List Value} {g : pm_G} {iv : pm_V} (h : (pm_ea args).length ≤ pm_ml mi) : pm_c X (d + 1) mi args g iv = pm_at X d mi (0, pm_en args (pm_ml mi), [], g, iv) := by
  show (if (pm_ea args).length ≤ pm_ml mi then _ else _) = _
  rw [if_pos h]
  rfl
theorem pm_at_go {X : pm_X} {d mi : Nat} {S S' : pm_S} (h : pm_n X (pm_c X d) mi S = some (.inl S')) : pm_at X d mi S = pm_at X d mi S' := by
  cases h1 : pm_at X d mi S' with
  | some r =>
    obtain ⟨n, hn⟩ := pm_at_ex h1
    exact pm_at_of (n := n + 1) (by simp only [pm_x, h]; exact hn)
  | none =>
    cases h2 : pm_at X d mi S with
    | none => rfl
    | some r =>
      obtain ⟨n, hn⟩ := pm_at_ex h2
      cases n with
      | zero => cases hn
      | succ n =>
        simp only [pm_x, h] at hn
        rw [pm_at_of hn] at h1
        cases h1
theorem pm_at_end {X : pm_X} {d mi : Nat} {S : pm_S} {r : pm_R} (h : pm_n X (pm_c X d) mi S = some (.inr r)) : pm_at X d mi S = some r :=
  pm_at_of (n := 1) (by simp only [pm_x, h])
theorem pm_at_none {X : pm_X} {d mi : Nat} {S : pm_S} (h : pm_n X (pm_c X d) mi S = none) : pm_at X d mi S = none := by
  cases h2 : pm_at X d mi S with
  | none => rfl
  | some r =>
    obtain ⟨n, hn⟩ := pm_at_ex h2
    cases n with
    | zero => cases hn
    | succ n => simp only [pm_x, h] at hn; cases hn
end
section
/-! the tables of the small machine, held against the claim's words -/
theorem pm_has_mem {w : Cond} {p : Nat} (h : pm_has w p = true) : w ∈ pm_TB := by
  simp only [pm_has, Bool.and_eq_true, decide_eq_true_eq] at h
  exact List.mem_filter.mpr ⟨List.mem_of_getElem? h.1, h.2⟩
def pm_T (c : Nat) : u_T := ((pm_cl[c]?).getD ("", fun _ => ("", "", "", false), 0)).2.1
theorem pm_lk_mem {α β : Type} [BEq α] [LawfulBEq α] : ∀ {l : List (α × β)} {k : α} {v : β}, l.lookup k = some v → (k, v) ∈ l := by
  intro l
  induction l with
  | nil => intro k v h; cases h
  | cons a t ih =>
    intro k v h
    obtain ⟨a1, a2⟩ := a
    rw [List.lookup_cons] at h
    by_cases he : k == a1
    · rw [he] at h
      cases h
      rw [eq_of_beq he]
      exact List.mem_cons_self
    · simp only [Bool.not_eq_true] at he
      rw [he] at h
      exact List.mem_cons_of_mem _ (ih h)
theorem pm_cl_at : ∀ c, c < 7 → pm_cl[c]? = some (pm_cn c, pm_T c, pm_nf c) := by
  intro c hc
  rcases (show c = 0 ∨ c = 1 ∨ c = 2 ∨ c = 3 ∨ c = 4 ∨ c = 5 ∨ c = 6 by omega) with rfl | rfl | rfl | rfl | rfl | rfl | rfl <;> rfl
def pm_lfk : Bool := pm_lft.all fun e => if e.2.1 = 100 then pm_has (.fieldLink (pm_cn e.1.1) e.1.2 "java/lang/String" (if e.2.2.1 = 0 then "value" else "coder") (if e.2.2.1 = 0 then "[B" else "B")) e.2.2.2
  else decide (e.2.1 < 7) && decide (e.2.2.1 < pm_nf e.2.1) && pm_has (.fieldLink (pm_cn e.1.1) e.1.2 (pm_T e.2.1 e.2.2.1).1 (pm_T e.2.1 e.2.2.1).2.1 (pm_T e.2.1 e.2.2.1).2.2.1) e.2.2.2
theorem pm_lfk_ok : pm_lfk = true := by decide +kernel
theorem pm_lf_w {k : Nat × Nat} {ci sl p : Nat} (h : pm_lft.lookup k = some (ci, sl, p)) (hn : ¬ ci = 100) : Cond.fieldLink (pm_cn k.1) k.2 (pm_T ci sl).1 (pm_T ci sl).2.1 (pm_T ci sl).2.2.1 ∈ pm_TB := by
  have h1 := List.all_eq_true.mp pm_lfk_ok _ (pm_lk_mem h)
  simp only [hn, if_false, Bool.and_eq_true] at h1
  exact pm_has_mem h1.2
theorem pm_lf_s {k : Nat × Nat} {sl p : Nat} (h : pm_lft.lookup k = some (100, sl, p)) : Cond.fieldLink (pm_cn k.1) k.2 "java/lang/String" (if sl = 0 then "value" else "coder") (if sl = 0 then "[B" else "B") ∈ pm_TB := by
  have h1 := List.all_eq_true.mp pm_lfk_ok _ (pm_lk_mem h)
  simp only [if_true] at h1
  exact pm_has_mem h1
/-- statics: class, name, descriptor -/
def pm_sn : List (String × String × String) := [("HillHouses$Asker", "PARENT", "[I"), ("HillHouses$Asker", "SIZE_BODY", "[I"), ("HillHouses$Asker", "MARK_BODY", "[I"), ("java/lang/String", "COMPACT_STRINGS", "Z"), ("jdk/internal/util/Preconditions", "SIOOBE_FORMATTER", "Ljava/util/function/BiFunction;")]
def pm_sna (k : Nat) : String × String × String := (pm_sn[k]?).getD ("", "", "")
def pm_lsk : Bool := pm_lst.all fun e => decide (e.2.1 < 5) && pm_has (.fieldLink (pm_cn e.1.1) e.1.2 (pm_sna e.2.1).1 (pm_sna e.2.1).2.1 (pm_sna e.2.1).2.2) e.2.2
theorem pm_lsk_ok : pm_lsk = true := by decide +kernel
theorem pm_ls_w {k : Nat × Nat} {j p : Nat} (h : pm_lst.lookup k = some (j, p)) : j < 5 ∧ Cond.fieldLink (pm_cn k.1) k.2 (pm_sna j).1 (pm_sna j).2.1 (pm_sna j).2.2 ∈ pm_TB := by
  have h1 := List.all_eq_true.mp pm_lsk_ok _ (pm_lk_mem h)
  simp only [Bool.and_eq_true, decide_eq_true_eq] at h1
  exact ⟨h1.1, pm_has_mem h1.2⟩
def pm_lck : Bool := pm_lct.all fun e => decide (e.2.1 < 7) && pm_has (.classLink (pm_cn e.1.1) e.1.2 (pm_cn e.2.1)) e.2.2
theorem pm_lck_ok : pm_lck = true := by decide +kernel
theorem pm_lc_w {k : Nat × Nat} {j p : Nat} (h : pm_lct.lookup k = some (j, p)) : j < 7 ∧ Cond.classLink (pm_cn k.1) k.2 (pm_cn j) ∈ pm_TB := by
  have h1 := List.all_eq_true.mp pm_lck_ok _ (pm_lk_mem h)
  simp only [Bool.and_eq_true, decide_eq_true_eq] at h1
  exact ⟨h1.1, pm_has_mem h1.2⟩
def pm_lkk : Bool := pm_lkt.all fun e => pm_has (.constant (pm_cn e.1.1) e.1.2 e.2.1) e.2.2
theorem pm_lkk_ok : pm_lkk = true := by decide +kernel
theorem pm_lk_w {k : Nat × Nat} {v : Int32} {p : Nat} (h : pm_lkt.lookup k = some (v, p)) : Cond.constant (pm_cn k.1) k.2 v ∈ pm_TB := pm_has_mem (List.all_eq_true.mp pm_lkk_ok _ (pm_lk_mem h))
def pm_llk : Bool := pm_llt.all fun e => pm_has (.constantLong (pm_cn e.1.1) e.1.2 e.2.1) e.2.2
theorem pm_llk_ok : pm_llk = true := by decide +kernel
theorem pm_ll_w {k : Nat × Nat} {v : Int64} {p : Nat} (h : pm_llt.lookup k = some (v, p)) : Cond.constantLong (pm_cn k.1) k.2 v ∈ pm_TB := pm_has_mem (List.all_eq_true.mp pm_llk_ok _ (pm_lk_mem h))
/-- a string constant's entry is the one that its text has -/
def pm_ltk : Bool := pm_ltt.all fun e => decide (e.1.1 = 4) && match pm_stx[e.2]? with
  | some t => decide (t.1 = e.1.2)
  | none => false
theorem pm_ltk_ok : pm_ltk = true := by decide +kernel
theorem pm_lt_w {k : Nat × Nat} {j : Nat} (h : pm_ltt.lookup k = some j) : k.1 = 4 ∧ ∃ t, pm_stx[j]? = some t ∧ t.1 = k.2 := by
  have h1 := List.all_eq_true.mp pm_ltk_ok _ (pm_lk_mem h)
  simp only [Bool.and_eq_true, decide_eq_true_eq] at h1
  refine ⟨h1.1, ?_⟩
  cases ht : pm_stx[j]? with
  | none => rw [ht] at h1; exact absurd h1.2 Bool.false_ne_true
  | some t => rw [ht] at h1; exact ⟨t, rfl, of_decide_eq_true h1.2⟩
/-- a method's own words; the law (the last) is nobody's callee -/
def pm_mtk : Bool := (List.range (pm_mt.length - 1)).all fun i => pm_has (if pm_mk i = 1 then .static (pm_my i) else .instanceMethod (pm_my i)) (pm_m i).2.2.2.2.2.2.2.1 && pm_has (.initialized (pm_my i).cls) (pm_m i).2.2.2.2.2.2.2.2.1
  && (if pm_mk i = 0 then pm_has (.selects (pm_my i).cls (pm_my i) (pm_my i)) (pm_m i).2.2.2.2.2.2.2.2.2 else true)
  && decide ((pm_my i).cls = pm_cn (pm_mc i)) && plainName (pm_my i).cls && decide ((pm_my i).cls ≠ "java/lang/invoke/MethodHandle") && decide ((pm_my i).cls ≠ "java/lang/invoke/VarHandle") && decide (pm_ml i ≤ 40) && (if pm_mk i = 2 then decide ((pm_my i).name = "<init>") && decide (pm_mr i = none) else true)
theorem pm_mtk_ok : pm_mtk = true := by decide +kernel
def pm_MOK (i : Nat) : Prop := Cond.code (pm_my i) (pm_mb i) (pm_ml i) (pm_mr i) ∈ pm_TB ∧ (if pm_mk i = 1 then Cond.static (pm_my i) else Cond.instanceMethod (pm_my i)) ∈ pm_TB ∧ Cond.initialized (pm_my i).cls ∈ pm_TB ∧ (pm_mk i = 0 → Cond.selects (pm_my i).cls (pm_my i) (pm_my i) ∈ pm_TB) ∧ (pm_my i).cls = pm_cn (pm_mc i) ∧ plainName (pm_my i).cls = true ∧ ((pm_my i).cls ≠ "java/lang/invoke/MethodHandle" ∧ (pm_my i).cls ≠ "java/lang/invoke/VarHandle") ∧ pm_ml i ≤ 40 ∧ (pm_mk i = 2 → (pm_my i).name = "<init>" ∧ pm_mr i = none)
theorem pm_m_ok {i : Nat} (hi : i < pm_mt.length - 1) : pm_MOK i := by
  have h1 := List.all_eq_true.mp pm_mtk_ok i (List.mem_range.mpr hi)
  simp only [Bool.and_eq_true, decide_eq_true_eq] at h1
  obtain ⟨⟨⟨⟨⟨⟨⟨⟨b, c⟩, d⟩, e⟩, f⟩, g⟩, h⟩, j⟩, k⟩ := h1
  refine ⟨pm_has_mem (pm_cw i hi), pm_has_mem b, pm_has_mem c, fun q => ?_, e, f, ⟨g, h⟩, j, fun q => ?_⟩
  · rw [if_pos q] at d
    exact pm_has_mem d
  · rw [if_pos q] at k
    simp only [Bool.and_eq_true, decide_eq_true_eq] at k
    exact k
/-- links to methods -/
def pm_lmk : Bool := pm_lmt.all fun e => match e.2 with
  | (0, t, n, p) => decide (t < pm_mt.length - 1) && decide (pm_mk t = 0) && pm_has (.methodLink (pm_cn e.1.1) e.1.2 (pm_my t)) p && decide ((parseMethodDescriptor (pm_my t).desc).map (fun d => d.parameters.length) = some n)
  | (1, t, n, p) => decide (t < pm_mt.length - 1) && decide (pm_mk t = 1) && pm_has (.methodLink (pm_cn e.1.1) e.1.2 (pm_my t)) p && decide ((parseMethodDescriptor (pm_my t).desc).map (fun d => d.parameters.length) = some n)
  | (2, t, n, p) => decide (t < pm_mt.length - 1) && decide (pm_mk t = 2) && pm_has (.methodLink (pm_cn e.1.1) e.1.2 (pm_my t)) p && decide ((parseMethodDescriptor (pm_my t).desc).map (fun d => d.parameters.length) = some n)
  | (3, t, n, p) => decide (t < pm_mt.length - 1) && decide (pm_mk t = 1) && decide ((pm_nst[p]?).map (fun q => (q.1, q.2.1, q.2.2.1)) = some (pm_cn e.1.1, e.1.2, pm_my t)) && decide ((parseMethodDescriptor (pm_my t).desc).map (fun d => d.parameters.length) = some n)
  | (4, t, n, p) => decide (t < pm_mt.length - 1) && decide (pm_mk t = 2) && decide ((pm_nst[p]?).map (fun q => (q.1, q.2.1, q.2.2.1)) = some (pm_cn e.1.1, e.1.2, pm_my t)) && decide ((parseMethodDescriptor (pm_my t).desc).map (fun d => d.parameters.length) = some n)
  | (5, _, _, p) => pm_has (.methodLink (pm_cn e.1.1) e.1.2 Lib.objectInit) p
  | (6, _, _, p) => pm_has (.methodLink (pm_cn e.1.1) e.1.2 arraycopyName) p
  | (7, _, _, p) => pm_has (.methodLink (pm_cn e.1.1) e.1.2 Lib.Math.min.name) p
  | (8, _, _, p) => pm_has (.methodLink (pm_cn e.1.1) e.1.2 Lib.Math.abs.name) p
  | _ => false
theorem pm_lmk_ok : pm_lmk = true := by decide +kernel
theorem pm_lm_012 {k : Nat × Nat} {q t n p : Nat} (hq : q < 3) (h : pm_lmt.lookup k = some (q, t, n, p)) : t < pm_mt.length - 1 ∧ pm_mk t = q ∧ Cond.methodLink (pm_cn k.1) k.2 (pm_my t) ∈ pm_TB ∧ (parseMethodDescriptor (pm_my t).desc).map (fun d => d.parameters.length) = some n := by
  have h1 := List.all_eq_true.mp pm_lmk_ok _ (pm_lk_mem h)
  rcases (show q = 0 ∨ q = 1 ∨ q = 2 by omega) with rfl | rfl | rfl <;>
    (simp only [Bool.and_eq_true, decide_eq_true_eq] at h1
     exact ⟨h1.1.1.1, h1.1.1.2, pm_has_mem h1.1.2, h1.2⟩)
theorem pm_lm_34 {k : Nat × Nat} {q t n p : Nat} (hq : q = 3 ∨ q = 4) (h : pm_lmt.lookup k = some (q, t, n, p)) : t < pm_mt.length - 1 ∧ pm_mk t = q - 2 ∧ (∃ host, (pm_cn k.1, k.2, pm_my t, host) ∈ pm_nst) ∧ (parseMethodDescriptor (pm_my t).desc).map (fun d => d.parameters.length) = some n := by
  have h1 := List.all_eq_true.mp pm_lmk_ok _ (pm_lk_mem h)
  rcases hq with rfl | rfl <;>
    (simp only [Bool.and_eq_true, decide_eq_true_eq] at h1
     refine ⟨h1.1.1.1, h1.1.1.2, ?_, h1.2⟩
     obtain ⟨z, hz, he⟩ := Option.map_eq_some_iff.mp h1.1.2
     obtain ⟨z1, z2, z3, z4⟩ := z
     cases he
     exact ⟨z4, List.mem_of_getElem? hz⟩)
theorem pm_lm_5 {k : Nat × Nat} {t n p : Nat} (h : pm_lmt.lookup k = some (5, t, n, p)) : Cond.methodLink (pm_cn k.1) k.2 Lib.objectInit ∈ pm_TB := pm_has_mem (List.all_eq_true.mp pm_lmk_ok _ (pm_lk_mem h))
theorem pm_lm_6 {k : Nat × Nat} {t n p : Nat} (h : pm_lmt.lookup k = some (6, t, n, p)) : Cond.methodLink (pm_cn k.1) k.2 arraycopyName ∈ pm_TB := pm_has_mem (List.all_eq_true.mp pm_lmk_ok _ (pm_lk_mem h))
theorem pm_lm_7 {k : Nat × Nat} {t n p : Nat} (h : pm_lmt.lookup k = some (7, t, n, p)) : Cond.methodLink (pm_cn k.1) k.2 Lib.Math.min.name ∈ pm_TB := pm_has_mem (List.all_eq_true.mp pm_lmk_ok _ (pm_lk_mem h))
theorem pm_lm_8 {k : Nat × Nat} {t n p : Nat} (h : pm_lmt.lookup k = some (8, t, n, p)) : Cond.methodLink (pm_cn k.1) k.2 Lib.Math.abs.name ∈ pm_TB := pm_has_mem (List.all_eq_true.mp pm_lmk_ok _ (pm_lk_mem h))
/-- words on their own -/
theorem pm_w_obj1 : Cond.instanceMethod Lib.objectInit ∈ pm_TB := pm_has_mem (p := 89) (by decide +kernel)
theorem pm_w_obj2 : Cond.code Lib.objectInit ⟨#[0xb1]⟩ 1 none ∈ pm_TB := pm_has_mem (p := 90) (by decide +kernel)
theorem pm_w_cp1 : Cond.native arraycopyName ∈ pm_TB := pm_has_mem (p := 309) (by decide +kernel)
theorem pm_w_cp2 : Cond.static arraycopyName ∈ pm_TB := pm_has_mem (p := 308) (by decide +kernel)
theorem pm_w_cp3 : Cond.initialized "java/lang/System" ∈ pm_TB := pm_has_mem (p := 75) (by decide +kernel)
theorem pm_w_min : Cond.static Lib.Math.min.name ∈ pm_TB := pm_has_mem (p := 703) (by decide +kernel)
theorem pm_w_abs : Cond.static Lib.Math.abs.name ∈ pm_TB := pm_has_mem (p := 696) (by decide +kernel)
theorem pm_w_math : Cond.initialized "java/lang/Math" ∈ pm_TB := pm_has_mem (p := 81) (by decide +kernel)
theorem pm_w_arI : Cond.arrayClass .int ∈ pm_TB := pm_has_mem (p := 110) (by decide +kernel)
theorem pm_w_arB : Cond.arrayClass .byte ∈ pm_TB := pm_has_mem (p := 142) (by decide +kernel)
theorem pm_w_arZ : Cond.arrayClass .boolean ∈ pm_TB := pm_has_mem (p := 923) (by decide +kernel)
def pm_insP : List Nat := [144, 160, 92, 173, 112, 84, 839]
/-- the classes' own words: they can be made, they stand initialised, their fields are laid -/
def pm_cok : Bool := (List.range 7).all fun c => pm_has (.instantiable (pm_cn c) (pm_nf c)) ((pm_insP[c]?).getD 0)
theorem pm_cok_ok : pm_cok = true := by decide +kernel
theorem pm_c_ins {c : Nat} (hc : c < 7) : Cond.instantiable (pm_cn c) (pm_nf c) ∈ pm_TB := pm_has_mem (List.all_eq_true.mp pm_cok_ok c (List.mem_range.mpr hc))
def pm_layP : List (List Nat) := [[152, 154, 156], [167, 169], [101, 103, 105, 107], [192, 194, 196, 198, 200, 202, 204, 206, 208, 210, 212, 214, 216, 218], [125, 127, 129, 131, 133, 135, 137, 139], [230, 232, 234, 236, 238, 240, 242, 244], [870, 872, 874, 876, 878, 880, 882, 884, 886, 888, 890, 892, 894, 896, 898, 900, 902, 904, 906, 908, 910, 912, 914, 916, 918, 920]]
def pm_lok : Bool := (List.range 7).all fun c => (List.range (pm_nf c)).all fun k => pm_has (u_lay (pm_cn c) (pm_T c) k) (((((pm_layP[c]?).getD [])[k]?)).getD 0)
theorem pm_lok_ok : pm_lok = true := by decide +kernel
theorem pm_c_lay {c : Nat} (hc : c < 7) : ∀ w ∈ u_ws (pm_cn c) (pm_T c) (pm_nf c), w ∈ pm_TB := by
  intro w hw
  obtain ⟨k, hk, rfl⟩ := List.mem_map.mp hw
  exact pm_has_mem (List.all_eq_true.mp (List.all_eq_true.mp pm_lok_ok c (List.mem_range.mpr hc)) k hk)
def pm_iniP : List Nat := [71, 72, 69, 73, 70, 68, 74]
def pm_iok : Bool := (List.range 7).all fun c => pm_has (.initialized (pm_cn c)) ((pm_iniP[c]?).getD 0)
theorem pm_iok_ok : pm_iok = true := by decide +kernel
theorem pm_c_ini {c : Nat} (hc : c < 7) : Cond.initialized (pm_cn c) ∈ pm_TB := pm_has_mem (List.all_eq_true.mp pm_iok_ok c (List.mem_range.mpr hc))
/-- the fields' names are apart, their descriptors are types, and these are as the tables of the small machine have them -/
def pm_tyf (c k : Nat) : FieldType := (parseFieldDescriptor (pm_T c k).2.2.1).getD .int
theorem pm_fn : ∀ c, c < 7 → ∀ a, a < pm_nf c → ∀ b, b < pm_nf c → a ≠ b → (pm_T c a).2.1 ≠ (pm_T c b).2.1 := by decide +kernel
theorem pm_fty : ∀ c, c < 7 → ∀ k, k < pm_nf c → parseFieldDescriptor (pm_T c k).2.2.1 = some (pm_tyf c k) := by decide +kernel
theorem pm_fff : ∀ c, c < 7 → ∀ k, k < pm_nf c → (pm_T c k).2.2.2 = pm_ff c k ∧ (pm_T c k).1 = pm_cn c := by decide +kernel
theorem pm_frf : ∀ c, c < 7 → ∀ k, k < pm_nf c → (pm_rf c k = false → pm_tyf c k = .int) ∧ (pm_rf c k = true → (∃ n, pm_tyf c k = .object n) ∨ ∃ t, pm_tyf c k = .array t) := by
  have h : ∀ c, c < 7 → ∀ k, k < pm_nf c → (pm_rf c k = false → pm_tyf c k = .int) ∧ (pm_rf c k = true → (match pm_tyf c k with | .object _ => true | .array _ => true | _ => false) = true) := by decide +kernel
  intro c hc k hk
  refine ⟨(h c hc k hk).1, fun hr => ?_⟩
  have h2 := (h c hc k hk).2 hr
  cases ht : pm_tyf c k <;> rw [ht] at h2 <;> first | exact Or.inl ⟨_, rfl⟩ | exact Or.inr ⟨_, rfl⟩ | exact absurd h2 Bool.false_ne_true
end
section
/-! what a state of the small machine says of a state of the machine -/
def pm_ws (mi : Nat) : List Cond := Cond.code (pm_my mi) (pm_mb mi) (pm_ml mi) (pm_mr mi) :: pm_TB
def pm_rm (d mc ms : Nat) : Room := { frames := d, cells := mc, slots := ms, locals := 64 * d }
def pm_cv (ad : Nat → Nat) (qv : Value) : Value → Value
  | .ref k => .ref (ad k)
  | .retAddr _ => qv
  | v => v
theorem pm_cv_cat {ad : Nat → Nat} {qv : Value} (hq : qv = .null ∨ ∃ t, qv = .ref t) (v : Value) : (pm_cv ad qv v).category = v.category := by
  cases v with
  | retAddr n => rcases hq with rfl | ⟨t, rfl⟩ <;> rfl
  | _ => rfl
theorem pm_cs_map {ad : Nat → Nat} {qv : Value} (hq : qv = .null ∨ ∃ t, qv = .ref t) (st : List Value) : ((st.map (pm_cv ad qv)).map fun v => v.category).sum = pm_cs st := by
  unfold pm_cs
  rw [List.map_map]
  congr 2
  funext v
  exact pm_cv_cat hq v
def pm_Ls (ad : Nat → Nat) (qv : Value) (ls : Array Slot) (nL : Nat) (lo : List (Option Value)) : Prop := ls.size = nL ∧ lo.length = nL ∧ lv_wf ls ∧ ∀ (i : Nat) (v : Value), lo[i]? = some (some v) → ls[i]? = some (.val (pm_cv ad qv v))
/-- the locals as the kit's list -/
def pm_al (f : Value → Value) (lo : List (Option Value)) : List (Nat × Value) := (List.range lo.length).filterMap fun i => match lo[i]? with
  | some (some v) => some (i, f v)
  | _ => none
theorem pm_al_mem {f : Value → Value} {lo : List (Option Value)} {i : Nat} {w : Value} : (i, w) ∈ pm_al f lo ↔ ∃ v, lo[i]? = some (some v) ∧ w = f v := by
  unfold pm_al
  rw [List.mem_filterMap]
  constructor
  · rintro ⟨j, hj, h⟩
    cases hl : lo[j]? with
    | none => rw [hl] at h; cases h
    | some o =>
      cases o with
      | none => rw [hl] at h; cases h
      | some v =>
        rw [hl] at h
        cases h
        exact ⟨v, hl, rfl⟩
  · rintro ⟨v, hl, rfl⟩
    refine ⟨i, List.mem_range.mpr (List.getElem?_eq_some_iff.mp hl).1, ?_⟩
    rw [hl]
theorem pm_al_has {ad : Nat → Nat} {qv : Value} {ls : Array Slot} {nL : Nat} {lo : List (Option Value)} (h : pm_Ls ad qv ls nL lo) : lv_has ls nL (pm_al (pm_cv ad qv) lo) := by
  refine ⟨h.1, h.2.2.1, fun q hq => ?_⟩
  obtain ⟨i, w⟩ := q
  obtain ⟨v, hv, rfl⟩ := pm_al_mem.mp hq
  exact h.2.2.2 i v hv
theorem pm_al_s1 {ad : Nat → Nat} {qv : Value} (hq : qv = .null ∨ ∃ t, qv = .ref t) {ls : Array Slot} {nL i : Nat} {lo lo' : List (Option Value)} {v : Value} (hlen : lo.length = nL) (h : lv_has ls nL ((i, pm_cv ad qv v) :: (pm_al (pm_cv ad qv) lo).filter (fun q => !(q.1 == i) && !(q.1 + 1 == i && q.2.category == 2)))) (hs : pm_s1 lo i v = some lo') : pm_Ls ad qv ls nL lo' := by
  unfold pm_s1 at hs
  split at hs
  · rename_i hc
    cases hs
    refine ⟨h.1, by rw [List.length_set]; exact hlen, h.2.1, fun j w hj => ?_⟩
    by_cases hji : j = i
    · subst hji
      rw [List.getElem?_set_self hc.1] at hj
      cases hj
      exact h.2.2 (j, _) List.mem_cons_self
    · rw [List.getElem?_set_ne (Ne.symm hji)] at hj
      refine h.2.2 (j, _) (List.mem_cons_of_mem _ (List.mem_filter.mpr ⟨pm_al_mem.mpr ⟨w, hj, rfl⟩, ?_⟩))
      simp only [Bool.and_eq_true, Bool.not_eq_true', Bool.and_eq_false_iff]
      refine ⟨beq_false_of_ne hji, ?_⟩
      by_cases h1 : j + 1 = i
      · refine Or.inr ?_
        rcases hc.2 with h0 | h0
        · omega
        · unfold pm_c2 at h0
          rw [show i - 1 = j by omega, hj] at h0
          have h2 : ¬ w.category = 2 := by simpa using h0
          show ((pm_cv ad qv w).category == 2) = false
          rw [pm_cv_cat hq]
          simpa using h2
      · exact Or.inl (beq_false_of_ne h1)
  · cases hs
theorem pm_al_s2 {ad : Nat → Nat} {qv : Value} (hq : qv = .null ∨ ∃ t, qv = .ref t) {ls : Array Slot} {nL i : Nat} {lo lo' : List (Option Value)} {v : Value} (hlen : lo.length = nL) (h : lv_has ls nL ((i, pm_cv ad qv v) :: (pm_al (pm_cv ad qv) lo).filter (fun q => !(q.1 == i) && (!(q.1 == i + 1) && !(q.1 + 1 == i && q.2.category == 2))))) (hs : pm_s2 lo i v = some lo') : pm_Ls ad qv ls nL lo' := by
  unfold pm_s2 at hs
  split at hs
  · rename_i hc
    cases hs
    refine ⟨h.1, by rw [List.length_set, List.length_set]; exact hlen, h.2.1, fun j w hj => ?_⟩
    by_cases hj1 : j = i + 1
    · subst hj1
      rw [List.getElem?_set_self (by rw [List.length_set]; exact hc.1)] at hj
      cases hj
    · rw [List.getElem?_set_ne (Ne.symm hj1)] at hj
      by_cases hji : j = i
      · subst hji
        rw [List.getElem?_set_self (by omega)] at hj
        cases hj
        exact h.2.2 (j, _) List.mem_cons_self
      · rw [List.getElem?_set_ne (Ne.symm hji)] at hj
        refine h.2.2 (j, _) (List.mem_cons_of_mem _ (List.mem_filter.mpr ⟨pm_al_mem.mpr ⟨w, hj, rfl⟩, ?_⟩))
        simp only [Bool.and_eq_true, Bool.not_eq_true', Bool.and_eq_false_iff]
        refine ⟨beq_false_of_ne hji, beq_false_of_ne hj1, ?_⟩
        by_cases h1 : j + 1 = i
        · refine Or.inr ?_
          rcases hc.2.1 with h0 | h0
          · omega
          · unfold pm_c2 at h0
            rw [show i - 1 = j by omega, hj] at h0
            have h2 : ¬ w.category = 2 := by simpa using h0
            show ((pm_cv ad qv w).category == 2) = false
            rw [pm_cv_cat hq]
            simpa using h2
        · exact Or.inl (beq_false_of_ne h1)
  · cases hs
/-- the locals at a method's entry -/
theorem pm_ea_args (f : Value → Value) (hf : ∀ v, (f v).category = v.category) : ∀ (vs : List Value) (k : Nat) (i : Nat) (v : Value), (pm_ea vs)[i]? = some (some v) → (k + i, f v) ∈ lv_args k (vs.map f)
  | [], k, i, v, h => by simp [pm_ea] at h
  | w :: r, k, i, v, h => by
    rw [pm_ea] at h
    by_cases hc : w.category = 2
    · rw [if_pos hc] at h
      rw [List.map_cons, lv_args]
      simp only [hf, hc]
      match i, h with
      | 0, h => cases h; exact List.mem_cons_self
      | 1, h => simp at h
      | i + 2, h =>
        have := pm_ea_args f hf r (k + 2) i v (by simpa using h)
        rw [show k + (i + 2) = k + 2 + i by omega]
        exact List.mem_cons_of_mem _ (by simpa using this)
    · rw [if_neg hc] at h
      have h1 : w.category = 1 := by cases w <;> first | rfl | exact absurd rfl hc
      rw [List.map_cons, lv_args]
      simp only [hf, h1]
      match i, h with
      | 0, h => cases h; exact List.mem_cons_self
      | i + 1, h =>
        have := pm_ea_args f hf r (k + 1) i v (by simpa using h)
        rw [show k + (i + 1) = k + 1 + i by omega]
        exact List.mem_cons_of_mem _ (by simpa using this)
theorem pm_ea_len (f : Value → Value) (hf : ∀ v, (f v).category = v.category) : ∀ vs : List Value, (lg_sl (vs.map f)).length = (pm_ea vs).length
  | [] => rfl
  | w :: r => by
    have ih := pm_ea_len f hf r
    have e : lg_sl ((w :: r).map f) = (if (f w).category = 2 then [Slot.val (f w), Slot.second] else [Slot.val (f w)]) ++ lg_sl (r.map f) := by simp [lg_sl]
    rw [e, List.length_append, ih, hf, pm_ea]
    by_cases hc : w.category = 2
    · rw [if_pos hc, if_pos hc]; simp; omega
    · rw [if_neg hc, if_neg hc]; simp; omega
theorem pm_entry {ad : Nat → Nat} {qv : Value} (hq : qv = .null ∨ ∃ t, qv = .ref t) (vs : List Value) {n : Nat} (h : (pm_ea vs).length ≤ n) : pm_Ls ad qv ((lg_sl (vs.map (pm_cv ad qv)) ++ List.replicate (n - (lg_sl (vs.map (pm_cv ad qv))).length) Slot.unset).toArray) n (pm_en vs n) := by
  have hl := pm_ea_len (pm_cv ad qv) (pm_cv_cat hq) vs
  have hE := lv_entry (vs.map (pm_cv ad qv)) (n := n) (by rw [hl]; exact h)
  refine ⟨hE.1, by simp [pm_en]; omega, hE.2.1, fun i v hi => ?_⟩
  have hi2 : (pm_ea vs)[i]? = some (some v) := by
    unfold pm_en at hi
    by_cases hlt : i < (pm_ea vs).length
    · rw [List.getElem?_append_left hlt] at hi
      exact hi
    · rw [List.getElem?_append_right (by omega)] at hi
      simp [List.getElem?_replicate] at hi
  have := hE.2.2 (0 + i, _) (pm_ea_args (pm_cv ad qv) (pm_cv_cat hq) vs 0 i v hi2)
  rwa [Nat.zero_add] at this
/-- what a cell holds -/
def pm_ee (ad : Nat → Nat) (ca : Nat → ClassId) (g : pm_G) (iv : pm_V) (k : Nat) : va_E := match g.1 k with
  | some (q, n) => if q < 8 then .inr (q, (List.range (pm_nf q)).map fun sl => pm_cv ad .null (pm_ov g iv q k sl)) else if q = 11 then .inl (ca k, n, .inr (.inr (.inr (.inr fun i => (g.2.1 k i).map ad)))) else .inl (ca k, n, .inl (iv k))
  | none => .inr (0, [])
def pm_e (ad : Nat → Nat) (ca : Nat → ClassId) (g : pm_G) (iv : pm_V) (k : Nat) : Nat × va_E := (ad k, pm_ee ad ca g iv k)
def pm_ty (q : Nat) : FieldType := if q = 8 then .int else if q = 9 then .byte else if q = 10 then .boolean else .object "HillHouses$Slope"
def pm_Wd (D : va_G) (A : Nat → Prop) (ad : Nat → Nat) (ca : Nat → ClassId) (L : List Nat) (g : pm_G) (iv : pm_V) (U : State) (H : Heap) : Prop :=
  (∀ k, k ∈ L ↔ g.1 k ≠ none) ∧ L.Nodup ∧ (∀ k ∈ L, k < 1000) ∧ va_P D pm_cl (L.map (pm_e ad ca g iv)) H ∧ va_D A (L.map (pm_e ad ca g iv)) ∧ ∀ k q n, g.1 k = some (q, n) → 8 ≤ q → q ≤ 11 ∧ ArrOfT U (ca k) (pm_ty q) ∧ va_RA U (ca k) (pm_ty q)
theorem pm_Wd.at {D : va_G} {A : Nat → Prop} {ad : Nat → Nat} {ca : Nat → ClassId} {L : List Nat} {g : pm_G} {iv : pm_V} {U : State} {H : Heap} (h : pm_Wd D A ad ca L g iv U H) {k : Nat} {x : Nat × Nat} (hk : g.1 k = some x) : ∃ j : Nat, L[j]? = some k ∧ (L.map (pm_e ad ca g iv))[j]? = some (ad k, pm_ee ad ca g iv k) := by
  obtain ⟨j, hj⟩ := List.getElem?_of_mem ((h.1 k).mpr (by rw [hk]; exact Option.some_ne_none _))
  exact ⟨j, hj, by rw [List.getElem?_map, hj]; rfl⟩
/-- one cell's word is put anew -/
theorem pm_set {ad : Nat → Nat} {ca : Nat → ClassId} {L : List Nat} {g g' : pm_G} {iv iv' : pm_V} (hn : L.Nodup) {j k : Nat} (hj : L[j]? = some k) (ho : ∀ q ∈ L, q ≠ k → pm_ee ad ca g' iv' q = pm_ee ad ca g iv q) : (L.map (pm_e ad ca g iv)).set j (ad k, pm_ee ad ca g' iv' k) = L.map (pm_e ad ca g' iv') := by
  apply List.ext_getElem?
  intro i
  by_cases hij : i = j
  · subst hij
    rw [List.getElem?_set_self (by rw [List.length_map]; exact (List.getElem?_eq_some_iff.mp hj).1), List.getElem?_map, hj]
    rfl
  · rw [List.getElem?_set_ne (Ne.symm hij), List.getElem?_map, List.getElem?_map]
    cases hi : L[i]? with
    | none => rfl
    | some q =>
      have hq : q ≠ k := by
        intro e
        subst e
        have h1 := (List.getElem?_eq_some_iff.mp hi)
        have h2 := (List.getElem?_eq_some_iff.mp hj)
        exact hij ((List.getElem_inj hn).mp (h1.2.trans h2.2.symm))
      show some (ad q, pm_ee ad ca g iv q) = some (ad q, pm_ee ad ca g' iv' q)
      rw [ho q (List.mem_of_getElem? hi) hq]
/-- what stands fast: strings, tables, the nest's links, the script -/
def pm_Env (X : pm_X) (qv : Value) (ad : Nat → Nat) (A : Nat → Prop) (U : State) (H : Heap) : Prop :=
  vk_S 8 (pm_sb.map List.length) pm_sb (fun i => ad (1000 + i)) (fun i => ad (1100 + i)) A U H ∧ (∀ i t, pm_stx[i]? = some t → vk_R "HillHouses$Tape" t.1 t.2 (ad (1000 + i)) U) ∧
  (∀ j t, pm_tb[j]? = some t → va_Z "HillHouses$Asker" t.1 "[I" (.ref (ad (1200 + j))) A U H ∧ va_T .int (ad (1200 + j)) t.2.length (fun i => .int (t.2.getD i 0)) A U H) ∧
  va_Z "java/lang/String" "COMPACT_STRINGS" "Z" (.int 1) A U H ∧ (qv = .null ∨ ∃ t, qv = .ref t) ∧ va_Z "jdk/internal/util/Preconditions" "SIOOBE_FORMATTER" "Ljava/util/function/BiFunction;" qv A U H ∧
  (∀ e ∈ pm_nst, va_Nw (.methodLinkNest e.1 e.2.1 e.2.2.1 e.2.2.2) U) ∧ va_X (ad 1300) X.1 X.2 U H ∧ ¬ A (ad 1300) ∧ va_AO "HillHouses$Slope" U
theorem pm_Env.ad {X : pm_X} {qv : Value} {ad ad' : Nat → Nat} {A : Nat → Prop} {U : State} {H : Heap} (h : pm_Env X qv ad A U H) (ha : ∀ k, 1000 ≤ k → ad' k = ad k) : pm_Env X qv ad' A U H := by
  have e0 : (fun i => ad' (1000 + i)) = fun i => ad (1000 + i) := funext fun i => ha _ (by omega)
  have e1 : (fun i => ad' (1100 + i)) = fun i => ad (1100 + i) := funext fun i => ha _ (by omega)
  have e2 : ∀ j, ad' (1200 + j) = ad (1200 + j) := fun j => ha _ (by omega)
  have e3 : ∀ j, ad' (1000 + j) = ad (1000 + j) := fun j => ha _ (by omega)
  obtain ⟨h1, h2, h3, h4, h5, h6, h7, h8, h9, h10⟩ := h
  refine ⟨by rw [e0, e1]; exact h1, fun i t ht => by rw [e3]; exact h2 i t ht, fun j t ht => by rw [e2]; exact h3 j t ht, h4, h5, h6, h7, by rw [ha 1300 (by omega)]; exact h8, by rw [ha 1300 (by omega)]; exact h9, h10⟩
/-- at a callee's entry -/
theorem pm_Env.down {X : pm_X} {qv : Value} {ad : Nat → Nat} {A B : Nat → Prop} {s U : State} {H : Heap} {locs : List Loc} (h : pm_Env X qv ad A s s.heap) (hS : va_S A s.heap H locs) (hU : U.heap = H) (hW : s.WarmedH U.vm) (hAB : ∀ q, B q → A q) : pm_Env X qv ad B U U.heap := by
  obtain ⟨h1, h2, h3, h4, h5, h6, h7, h8, h9, h10⟩ := h
  have hk : ∀ a : Nat, a < s.heap.size → ¬ A a → U.heap[a]? = s.heap[a]? := by rw [hU]; exact hS.2.1
  obtain ⟨scr, hs1, hs2⟩ := h8
  exact ⟨((h1.kept hk).narrow hAB).moved hW.alike, fun i t ht => vk_R.warm hW (h2 i t ht), fun j t ht => ⟨(((h3 j t ht).1.kept hk).narrow hAB).moved hW.alike, (((h3 j t ht).2.kept hk).narrow hAB).moved hW.alike⟩,
    ((h4.kept hk).narrow hAB).moved hW.alike, h5, ((h6.kept hk).narrow hAB).moved hW.alike, fun e he => va_Nw.warmM hW (h7 e he), va_X.moved hW.alike ⟨scr, (hk _ (Array.getElem?_eq_some_iff.mp hs1).1 h9).trans hs1, hs2⟩, fun z => h9 (hAB _ z), va_AO.moved hW.alike h10⟩
theorem pm_Env.blind {X : pm_X} {qv : Value} {ad : Nat → Nat} {A : Nat → Prop} {U : State} (a : Array Value) (g : JFrame) (mk : MethodId) (h : pm_Env X qv ad A U U.heap) : pm_Env X qv ad A (U.calling g mk a) (U.calling g mk a).heap := by
  obtain ⟨h1, h2, h3, h4, h5, h6, h7, h8, h9, h10⟩ := h
  exact ⟨vk_S.moved (u := U) (U := U.calling g mk a) (Vm.Alike.refl U.vm) h1, fun i t ht => vk_R.same (u := U) (U := U.calling g mk a) rfl (h2 i t ht), fun j t ht => ⟨va_Z.moved (u := U) (U := U.calling g mk a) (Vm.Alike.refl U.vm) (h3 j t ht).1, va_T.moved (u := U) (U := U.calling g mk a) (Vm.Alike.refl U.vm) (h3 j t ht).2⟩,
    va_Z.moved (u := U) (U := U.calling g mk a) (Vm.Alike.refl U.vm) h4, h5, va_Z.moved (u := U) (U := U.calling g mk a) (Vm.Alike.refl U.vm) h6, fun e he => va_Nw.same rfl rfl (h7 e he), va_X.moved (u := U) (U := U.calling g mk a) (Vm.Alike.refl U.vm) h8, h9, va_AO.moved (u := U) (U := U.calling g mk a) (Vm.Alike.refl U.vm) h10⟩
end
section
/-! SOUNDNESS of the small machine: one instruction -/
def pm_Cx (X : pm_X) (qv : Value) (D : va_G) (A : Nat → Prop) (adI : Nat → Nat) (mi : Nat) (p : Program) (R : Room) (s : State) (m : MethodId) (args : Array Value) (meth : Method) (c : Code) : Prop :=
  p.tables.exec = Jvm.exec ∧ c.code = pm_mb mi ∧ c.maxLocals = pm_ml mi ∧ s.vm.findClass (pm_cn (pm_mc mi)) = some m.cls ∧ (∀ w ∈ pm_TB, w.before args s = true) ∧ (pm_mk mi = 2 → meth.name = "<init>") ∧ va_K D pm_cl [] s ∧ pm_Env X qv adI A s s.heap ∧ (∀ q, s.heap.size ≤ q → A q) ∧ 64 ≤ R.locals ∧ 1 ≤ R.frames
def pm_Go (qv : Value) (D : va_G) (A : Nat → Prop) (adI : Nat → Nat) (gI : pm_G) (mi : Nat) (p : Program) (l : Launch) (e : Env) (R : Room) (s : State) (m : MethodId) (args : Array Value) (below : List Frame) (meth : Method) (c : Code) (Q : State → Prop) (S : pm_S) : Prop :=
  ∀ (ad : Nat → Nat) (ca : Nat → ClassId) (L : List Nat) (H : Heap) (locs : List Loc) (cells slots : Nat) (ls : Array Slot), (∀ k, gI.1 k ≠ none ∨ 1000 ≤ k → ad k = adI k) → (∀ k, gI.1 k ≠ none → S.2.2.2.1.1 k ≠ none) → pm_Ls ad qv ls (pm_ml mi) S.2.1 → pm_Wd D A ad ca L S.2.2.2.1 S.2.2.2.2 s H → va_S A s.heap H locs →
    cells + gI.2.2.2.1 = S.2.2.2.1.2.2.2.1 → slots + gI.2.2.2.2 = S.2.2.2.1.2.2.2.2 → W p l e R s m args below meth c H locs cells slots Q (F0 m S.1 ls (S.2.2.1.map (pm_cv ad qv)))

section SND
variable {X : pm_X} {qv : Value} {D : va_G} {A : Nat → Prop} {adI : Nat → Nat} {gI : pm_G} {mi : Nat} {p : Program} {l : Launch} {e : Env} {R : Room} {s : State} {m : MethodId} {args : Array Value} {below : List Frame} {meth : Method} {c : Code} {Q : State → Prop} {S' : pm_S} {pc : Nat} {lo : List (Option Value)} {st : List Value} {g : pm_G} {iv : pm_V}

theorem pm_g_iconst (hC : pm_Cx X qv D A adI mi p R s m args meth c) {n : Int} (hd : decode (pm_mb mi) pc = .ok (.iconst n, 1)) (h : pm_psh pc lo st g iv 1 (.int (Int32.ofInt n)) = some (.inl S')) (k : pm_Go qv D A adI gI mi p l e R s m args below meth c Q S') : pm_Go qv D A adI gI mi p l e R s m args below meth c Q (pc, lo, st, g, iv) := by
  cases h
  intro ad ca L H locs cells slots ls hag hpe hls hW hS hc hs
  exact lv_iconst hC.1 hC.2.1 hd rfl (k ad ca L H locs cells slots ls hag hpe hls hW hS hc hs)
theorem pm_g_bipush (hC : pm_Cx X qv D A adI mi p R s m args meth c) {n : Int} (hd : decode (pm_mb mi) pc = .ok (.bipush n, 2)) (h : pm_psh pc lo st g iv 2 (.int (Int8.ofInt n).toInt32) = some (.inl S')) (k : pm_Go qv D A adI gI mi p l e R s m args below meth c Q S') : pm_Go qv D A adI gI mi p l e R s m args below meth c Q (pc, lo, st, g, iv) := by
  cases h
  intro ad ca L H locs cells slots ls hag hpe hls hW hS hc hs
  exact lv_bipush hC.1 hC.2.1 hd rfl (k ad ca L H locs cells slots ls hag hpe hls hW hS hc hs)
theorem pm_g_sipush (hC : pm_Cx X qv D A adI mi p R s m args meth c) {n : Int} (hd : decode (pm_mb mi) pc = .ok (.sipush n, 3)) (h : pm_psh pc lo st g iv 3 (.int (Int16.ofInt n).toInt32) = some (.inl S')) (k : pm_Go qv D A adI gI mi p l e R s m args below meth c Q S') : pm_Go qv D A adI gI mi p l e R s m args below meth c Q (pc, lo, st, g, iv) := by
  cases h
  intro ad ca L H locs cells slots ls hag hpe hls hW hS hc hs
  exact lv_sipush hC.1 hC.2.1 hd rfl (k ad ca L H locs cells slots ls hag hpe hls hW hS hc hs)
theorem pm_g_lconst (hC : pm_Cx X qv D A adI mi p R s m args meth c) {n : Fin 2} (hd : decode (pm_mb mi) pc = .ok (.lconst n, 1)) (h : pm_psh pc lo st g iv 1 (.long (Int64.ofNat (n : Nat))) = some (.inl S')) (k : pm_Go qv D A adI gI mi p l e R s m args below meth c Q S') : pm_Go qv D A adI gI mi p l e R s m args below meth c Q (pc, lo, st, g, iv) := by
  cases h
  intro ad ca L H locs cells slots ls hag hpe hls hW hS hc hs
  exact lv_lconst hC.1 hC.2.1 hd rfl (k ad ca L H locs cells slots ls hag hpe hls hW hS hc hs)
theorem pm_ldI_inv {n i : Nat} (h : pm_ldI pc lo st g iv n i = some (.inl S')) : ∃ x, lo[i]? = some (some (.int x)) ∧ S' = (pc + n, lo, .int x :: st, g, iv) := by
  unfold pm_ldI at h
  split at h
  · rename_i x hx
    cases h
    exact ⟨x, hx, rfl⟩
  · cases h
theorem pm_ldL_inv {n i : Nat} (h : pm_ldL pc lo st g iv n i = some (.inl S')) : ∃ x, lo[i]? = some (some (.long x)) ∧ S' = (pc + n, lo, .long x :: st, g, iv) := by
  unfold pm_ldL at h
  split at h
  · rename_i x hx
    cases h
    exact ⟨x, hx, rfl⟩
  · cases h

theorem pm_g_iload_n (hC : pm_Cx X qv D A adI mi p R s m args meth c) {i : Fin 4} (hd : decode (pm_mb mi) pc = .ok (.iload_n i, 1)) (h : pm_ldI pc lo st g iv 1 i = some (.inl S')) (k : pm_Go qv D A adI gI mi p l e R s m args below meth c Q S') : pm_Go qv D A adI gI mi p l e R s m args below meth c Q (pc, lo, st, g, iv) := by
  obtain ⟨x, hx, rfl⟩ := pm_ldI_inv h
  intro ad ca L H locs cells slots ls hag hpe hls hW hS hc hs
  exact lv_iload_n hC.1 hC.2.1 hd rfl (hls.2.2.2 _ _ hx) (k ad ca L H locs cells slots ls hag hpe hls hW hS hc hs)
theorem pm_g_iload (hC : pm_Cx X qv D A adI mi p R s m args meth c) {i : Nat} (hd : decode (pm_mb mi) pc = .ok (.iload i, 2)) (h : pm_ldI pc lo st g iv 2 i = some (.inl S')) (k : pm_Go qv D A adI gI mi p l e R s m args below meth c Q S') : pm_Go qv D A adI gI mi p l e R s m args below meth c Q (pc, lo, st, g, iv) := by
  obtain ⟨x, hx, rfl⟩ := pm_ldI_inv h
  intro ad ca L H locs cells slots ls hag hpe hls hW hS hc hs
  exact lv_iload hC.1 hC.2.1 hd (hls.2.2.2 _ _ hx) (k ad ca L H locs cells slots ls hag hpe hls hW hS hc hs)
theorem pm_g_lload_n (hC : pm_Cx X qv D A adI mi p R s m args meth c) {i : Fin 4} (hd : decode (pm_mb mi) pc = .ok (.lload_n i, 1)) (h : pm_ldL pc lo st g iv 1 i = some (.inl S')) (k : pm_Go qv D A adI gI mi p l e R s m args below meth c Q S') : pm_Go qv D A adI gI mi p l e R s m args below meth c Q (pc, lo, st, g, iv) := by
  obtain ⟨x, hx, rfl⟩ := pm_ldL_inv h
  intro ad ca L H locs cells slots ls hag hpe hls hW hS hc hs
  exact lv_lload_n hC.1 hC.2.1 hd rfl (hls.2.2.2 _ _ hx) (k ad ca L H locs cells slots ls hag hpe hls hW hS hc hs)
theorem pm_g_lload (hC : pm_Cx X qv D A adI mi p R s m args meth c) {i : Nat} (hd : decode (pm_mb mi) pc = .ok (.lload i, 2)) (h : pm_ldL pc lo st g iv 2 i = some (.inl S')) (k : pm_Go qv D A adI gI mi p l e R s m args below meth c Q S') : pm_Go qv D A adI gI mi p l e R s m args below meth c Q (pc, lo, st, g, iv) := by
  obtain ⟨x, hx, rfl⟩ := pm_ldL_inv h
  intro ad ca L H locs cells slots ls hag hpe hls hW hS hc hs
  exact lv_lload hC.1 hC.2.1 hd (hls.2.2.2 _ _ hx) (k ad ca L H locs cells slots ls hag hpe hls hW hS hc hs)
theorem pm_g_aload_n (hC : pm_Cx X qv D A adI mi p R s m args meth c) {i : Fin 4} (hd : decode (pm_mb mi) pc = .ok (.aload_n i, 1)) (h : pm_ldA pc lo st g iv 1 i = some (.inl S')) (k : pm_Go qv D A adI gI mi p l e R s m args below meth c Q S') : pm_Go qv D A adI gI mi p l e R s m args below meth c Q (pc, lo, st, g, iv) := by
  unfold pm_ldA at h
  split at h
  · rename_i x hx
    cases h
    intro ad ca L H locs cells slots ls hag hpe hls hW hS hc hs
    exact lv_aload_n hC.1 hC.2.1 hd rfl (hls.2.2.2 _ _ hx) (k ad ca L H locs cells slots ls hag hpe hls hW hS hc hs)
  · rename_i hx
    cases h
    intro ad ca L H locs cells slots ls hag hpe hls hW hS hc hs
    exact lv_aload_nN hC.1 hC.2.1 hd rfl (hls.2.2.2 _ _ hx) (k ad ca L H locs cells slots ls hag hpe hls hW hS hc hs)
  · rename_i x hx
    cases h
    intro ad ca L H locs cells slots ls hag hpe hls hW hS hc hs
    have h2 := hls.2.2.2 _ _ hx
    have kk := k ad ca L H locs cells slots ls hag hpe hls hW hS hc hs
    rcases hC.2.2.2.2.2.2.2.1.2.2.2.2.1 with rfl | ⟨t, rfl⟩
    · exact lv_aload_nN hC.1 hC.2.1 hd rfl h2 kk
    · exact lv_aload_n hC.1 hC.2.1 hd rfl h2 kk
  · cases h
theorem pm_stI_inv {n i : Nat} (h : pm_stI pc lo st g iv n i = some (.inl S')) : ∃ x r lo', st = .int x :: r ∧ pm_s1 lo i (.int x) = some lo' ∧ S' = (pc + n, lo', r, g, iv) := by
  unfold pm_stI at h
  split at h
  · split at h
    · rename_i hl
      cases h
      exact ⟨_, _, _, rfl, hl, rfl⟩
    · cases h
  · cases h
theorem pm_stL_inv {n i : Nat} (h : pm_stL pc lo st g iv n i = some (.inl S')) : ∃ x r lo', st = .long x :: r ∧ pm_s2 lo i (.long x) = some lo' ∧ S' = (pc + n, lo', r, g, iv) := by
  unfold pm_stL at h
  split at h
  · split at h
    · rename_i hl
      cases h
      exact ⟨_, _, _, rfl, hl, rfl⟩
    · cases h
  · cases h
theorem pm_s1_lt {i : Nat} {v : Value} {lo' : List (Option Value)} (h : pm_s1 lo i v = some lo') : i < lo.length := by
  unfold pm_s1 at h
  split at h
  · rename_i q; exact q.1
  · cases h
theorem pm_s2_lt {i : Nat} {v : Value} {lo' : List (Option Value)} (h : pm_s2 lo i v = some lo') : i + 1 < lo.length := by
  unfold pm_s2 at h
  split at h
  · rename_i q; exact q.1
  · cases h

theorem pm_g_istore_n (hC : pm_Cx X qv D A adI mi p R s m args meth c) {i : Fin 4} (hd : decode (pm_mb mi) pc = .ok (.istore_n i, 1)) (h : pm_stI pc lo st g iv 1 i = some (.inl S')) (k : pm_Go qv D A adI gI mi p l e R s m args below meth c Q S') : pm_Go qv D A adI gI mi p l e R s m args below meth c Q (pc, lo, st, g, iv) := by
  obtain ⟨x, r, lo1, rfl, hl, rfl⟩ := pm_stI_inv h
  intro ad ca L H locs cells slots ls hag hpe hls hW hS hc hs
  exact lv_istore_n hC.1 hC.2.1 hd rfl (pm_al_has hls) (by rw [← hls.2.1]; exact pm_s1_lt hl) rfl (fun ls1 h1 => k ad ca L H locs cells slots ls1 hag hpe (pm_al_s1 hC.2.2.2.2.2.2.2.1.2.2.2.2.1 hls.2.1 h1 hl) hW hS hc hs)
theorem pm_g_istore (hC : pm_Cx X qv D A adI mi p R s m args meth c) {i : Nat} (hd : decode (pm_mb mi) pc = .ok (.istore i, 2)) (h : pm_stI pc lo st g iv 2 i = some (.inl S')) (k : pm_Go qv D A adI gI mi p l e R s m args below meth c Q S') : pm_Go qv D A adI gI mi p l e R s m args below meth c Q (pc, lo, st, g, iv) := by
  obtain ⟨x, r, lo1, rfl, hl, rfl⟩ := pm_stI_inv h
  intro ad ca L H locs cells slots ls hag hpe hls hW hS hc hs
  exact lv_istore hC.1 hC.2.1 hd (pm_al_has hls) (by rw [← hls.2.1]; exact pm_s1_lt hl) rfl (fun ls1 h1 => k ad ca L H locs cells slots ls1 hag hpe (pm_al_s1 hC.2.2.2.2.2.2.2.1.2.2.2.2.1 hls.2.1 h1 hl) hW hS hc hs)
theorem pm_g_lstore_n (hC : pm_Cx X qv D A adI mi p R s m args meth c) {i : Fin 4} (hd : decode (pm_mb mi) pc = .ok (.lstore_n i, 1)) (h : pm_stL pc lo st g iv 1 i = some (.inl S')) (k : pm_Go qv D A adI gI mi p l e R s m args below meth c Q S') : pm_Go qv D A adI gI mi p l e R s m args below meth c Q (pc, lo, st, g, iv) := by
  obtain ⟨x, r, lo1, rfl, hl, rfl⟩ := pm_stL_inv h
  intro ad ca L H locs cells slots ls hag hpe hls hW hS hc hs
  exact lv_lstore_n hC.1 hC.2.1 hd rfl (pm_al_has hls) (by rw [← hls.2.1]; exact pm_s2_lt hl) rfl (fun ls1 h1 => k ad ca L H locs cells slots ls1 hag hpe (pm_al_s2 hC.2.2.2.2.2.2.2.1.2.2.2.2.1 hls.2.1 h1 hl) hW hS hc hs)
theorem pm_g_astore_n (hC : pm_Cx X qv D A adI mi p R s m args meth c) {i : Fin 4} (hd : decode (pm_mb mi) pc = .ok (.astore_n i, 1)) (h : pm_stA pc lo st g iv 1 i = some (.inl S')) (k : pm_Go qv D A adI gI mi p l e R s m args below meth c Q S') : pm_Go qv D A adI gI mi p l e R s m args below meth c Q (pc, lo, st, g, iv) := by
  unfold pm_stA at h
  split at h
  · split at h
    · rename_i hl
      cases h
      intro ad ca L H locs cells slots ls hag hpe hls hW hS hc hs
      exact lv_astore_n hC.1 hC.2.1 hd rfl (pm_al_has hls) (by rw [← hls.2.1]; exact pm_s1_lt hl) rfl (fun ls1 h1 => k ad ca L H locs cells slots ls1 hag hpe (pm_al_s1 hC.2.2.2.2.2.2.2.1.2.2.2.2.1 hls.2.1 h1 hl) hW hS hc hs)
    · cases h
  · split at h
    · rename_i hl
      cases h
      intro ad ca L H locs cells slots ls hag hpe hls hW hS hc hs
      exact lv_astore_nN hC.1 hC.2.1 hd rfl (pm_al_has hls) (by rw [← hls.2.1]; exact pm_s1_lt hl) rfl (fun ls1 h1 => k ad ca L H locs cells slots ls1 hag hpe (pm_al_s1 hC.2.2.2.2.2.2.2.1.2.2.2.2.1 hls.2.1 h1 hl) hW hS hc hs)
    · cases h
  · cases h
theorem pm_g_iinc (hC : pm_Cx X qv D A adI mi p R s m args meth c) {i : Nat} {n : Int} (hd : decode (pm_mb mi) pc = .ok (.iinc i n, 3)) (h : pm_inc pc lo st g iv i n = some (.inl S')) (k : pm_Go qv D A adI gI mi p l e R s m args below meth c Q S') : pm_Go qv D A adI gI mi p l e R s m args below meth c Q (pc, lo, st, g, iv) := by
  unfold pm_inc at h
  split at h
  · rename_i x hx
    split at h
    · rename_i lo1 hl
      cases h
      intro ad ca L H locs cells slots ls hag hpe hls hW hS hc hs
      obtain ⟨j, hj⟩ := List.getElem?_of_mem (pm_al_mem (f := pm_cv ad qv).mpr ⟨.int x, hx, rfl⟩)
      exact lv_iinc hC.1 hC.2.1 hd (pm_al_has hls) hj rfl (by rw [← hls.2.1]; exact pm_s1_lt hl) rfl (fun ls1 h1 => k ad ca L H locs cells slots ls1 hag hpe (pm_al_s1 hC.2.2.2.2.2.2.2.1.2.2.2.2.1 hls.2.1 h1 hl) hW hS hc hs)
    · cases h
  · cases h
theorem pm_i1_inv {f : Int32 → Int32} (h : pm_i1 pc lo st g iv f = some (.inl S')) : ∃ x r, st = .int x :: r ∧ S' = (pc + 1, lo, .int (f x) :: r, g, iv) := by
  unfold pm_i1 at h
  split at h
  · cases h
    exact ⟨_, _, rfl, rfl⟩
  · cases h
theorem pm_i2_inv {f : Int32 → Int32 → Int32} (h : pm_i2 pc lo st g iv f = some (.inl S')) : ∃ x y r, st = .int y :: .int x :: r ∧ S' = (pc + 1, lo, .int (f x y) :: r, g, iv) := by
  unfold pm_i2 at h
  split at h
  · cases h
    exact ⟨_, _, _, rfl, rfl⟩
  · cases h
theorem pm_l2_inv {f : Int64 → Int64 → Int64} (h : pm_l2 pc lo st g iv f = some (.inl S')) : ∃ x y r, st = .long y :: .long x :: r ∧ S' = (pc + 1, lo, .long (f x y) :: r, g, iv) := by
  unfold pm_l2 at h
  split at h
  · cases h
    exact ⟨_, _, _, rfl, rfl⟩
  · cases h
theorem pm_ls2_inv {f : Int64 → Int32 → Int64} (h : pm_ls2 pc lo st g iv f = some (.inl S')) : ∃ x y r, st = .int y :: .long x :: r ∧ S' = (pc + 1, lo, .long (f x y) :: r, g, iv) := by
  unfold pm_ls2 at h
  split at h
  · cases h
    exact ⟨_, _, _, rfl, rfl⟩
  · cases h
theorem pm_il_inv {f : Int32 → Int64} (h : pm_il pc lo st g iv f = some (.inl S')) : ∃ x r, st = .int x :: r ∧ S' = (pc + 1, lo, .long (f x) :: r, g, iv) := by
  unfold pm_il at h
  split at h
  · cases h
    exact ⟨_, _, rfl, rfl⟩
  · cases h
theorem pm_li_inv {f : Int64 → Int32} (h : pm_li pc lo st g iv f = some (.inl S')) : ∃ x r, st = .long x :: r ∧ S' = (pc + 1, lo, .int (f x) :: r, g, iv) := by
  unfold pm_li at h
  split at h
  · cases h
    exact ⟨_, _, rfl, rfl⟩
  · cases h
theorem pm_d2_inv {f : Int32 → Int32 → Int32} (h : pm_d2 pc lo st g iv f = some (.inl S')) : ∃ x y r, st = .int y :: .int x :: r ∧ ¬ y = 0 ∧ S' = (pc + 1, lo, .int (f x y) :: r, g, iv) := by
  unfold pm_d2 at h
  split at h
  · unfold pm_ifn at h
    split at h
    · rename_i hy
      cases h
      exact ⟨_, _, _, rfl, hy, rfl⟩
    · cases h
  · cases h
theorem pm_g_iadd (hC : pm_Cx X qv D A adI mi p R s m args meth c) (hd : decode (pm_mb mi) pc = .ok (.iadd, 1)) (h : pm_i2 pc lo st g iv (fun x y => x + y) = some (.inl S')) (k : pm_Go qv D A adI gI mi p l e R s m args below meth c Q S') : pm_Go qv D A adI gI mi p l e R s m args below meth c Q (pc, lo, st, g, iv) := by
  obtain ⟨x, y, r, rfl, rfl⟩ := pm_i2_inv h
  intro ad ca L H locs cells slots ls hag hpe hls hW hS hc hs
  exact lv_iadd hC.1 hC.2.1 hd (k ad ca L H locs cells slots ls hag hpe hls hW hS hc hs)
theorem pm_g_isub (hC : pm_Cx X qv D A adI mi p R s m args meth c) (hd : decode (pm_mb mi) pc = .ok (.isub, 1)) (h : pm_i2 pc lo st g iv (fun x y => x - y) = some (.inl S')) (k : pm_Go qv D A adI gI mi p l e R s m args below meth c Q S') : pm_Go qv D A adI gI mi p l e R s m args below meth c Q (pc, lo, st, g, iv) := by
  obtain ⟨x, y, r, rfl, rfl⟩ := pm_i2_inv h
  intro ad ca L H locs cells slots ls hag hpe hls hW hS hc hs
  exact lv_isub hC.1 hC.2.1 hd (k ad ca L H locs cells slots ls hag hpe hls hW hS hc hs)
theorem pm_g_imul (hC : pm_Cx X qv D A adI mi p R s m args meth c) (hd : decode (pm_mb mi) pc = .ok (.imul, 1)) (h : pm_i2 pc lo st g iv (fun x y => x * y) = some (.inl S')) (k : pm_Go qv D A adI gI mi p l e R s m args below meth c Q S') : pm_Go qv D A adI gI mi p l e R s m args below meth c Q (pc, lo, st, g, iv) := by
  obtain ⟨x, y, r, rfl, rfl⟩ := pm_i2_inv h
  intro ad ca L H locs cells slots ls hag hpe hls hW hS hc hs
  exact lv_imul hC.1 hC.2.1 hd (k ad ca L H locs cells slots ls hag hpe hls hW hS hc hs)
theorem pm_g_iand (hC : pm_Cx X qv D A adI mi p R s m args meth c) (hd : decode (pm_mb mi) pc = .ok (.iand, 1)) (h : pm_i2 pc lo st g iv (fun x y => x &&& y) = some (.inl S')) (k : pm_Go qv D A adI gI mi p l e R s m args below meth c Q S') : pm_Go qv D A adI gI mi p l e R s m args below meth c Q (pc, lo, st, g, iv) := by
  obtain ⟨x, y, r, rfl, rfl⟩ := pm_i2_inv h
  intro ad ca L H locs cells slots ls hag hpe hls hW hS hc hs
  exact lv_iand hC.1 hC.2.1 hd (k ad ca L H locs cells slots ls hag hpe hls hW hS hc hs)
theorem pm_g_ior (hC : pm_Cx X qv D A adI mi p R s m args meth c) (hd : decode (pm_mb mi) pc = .ok (.ior, 1)) (h : pm_i2 pc lo st g iv (fun x y => x ||| y) = some (.inl S')) (k : pm_Go qv D A adI gI mi p l e R s m args below meth c Q S') : pm_Go qv D A adI gI mi p l e R s m args below meth c Q (pc, lo, st, g, iv) := by
  obtain ⟨x, y, r, rfl, rfl⟩ := pm_i2_inv h
  intro ad ca L H locs cells slots ls hag hpe hls hW hS hc hs
  exact lv_ior hC.1 hC.2.1 hd (k ad ca L H locs cells slots ls hag hpe hls hW hS hc hs)
theorem pm_g_ixor (hC : pm_Cx X qv D A adI mi p R s m args meth c) (hd : decode (pm_mb mi) pc = .ok (.ixor, 1)) (h : pm_i2 pc lo st g iv (fun x y => x ^^^ y) = some (.inl S')) (k : pm_Go qv D A adI gI mi p l e R s m args below meth c Q S') : pm_Go qv D A adI gI mi p l e R s m args below meth c Q (pc, lo, st, g, iv) := by
  obtain ⟨x, y, r, rfl, rfl⟩ := pm_i2_inv h
  intro ad ca L H locs cells slots ls hag hpe hls hW hS hc hs
  exact lv_ixor hC.1 hC.2.1 hd (k ad ca L H locs cells slots ls hag hpe hls hW hS hc hs)
theorem pm_g_ishl (hC : pm_Cx X qv D A adI mi p R s m args meth c) (hd : decode (pm_mb mi) pc = .ok (.ishl, 1)) (h : pm_i2 pc lo st g iv (fun x y => x <<< (y &&& 31)) = some (.inl S')) (k : pm_Go qv D A adI gI mi p l e R s m args below meth c Q S') : pm_Go qv D A adI gI mi p l e R s m args below meth c Q (pc, lo, st, g, iv) := by
  obtain ⟨x, y, r, rfl, rfl⟩ := pm_i2_inv h
  intro ad ca L H locs cells slots ls hag hpe hls hW hS hc hs
  exact lv_ishl hC.1 hC.2.1 hd (k ad ca L H locs cells slots ls hag hpe hls hW hS hc hs)
theorem pm_g_ishr (hC : pm_Cx X qv D A adI mi p R s m args meth c) (hd : decode (pm_mb mi) pc = .ok (.ishr, 1)) (h : pm_i2 pc lo st g iv (fun x y => x >>> (y &&& 31)) = some (.inl S')) (k : pm_Go qv D A adI gI mi p l e R s m args below meth c Q S') : pm_Go qv D A adI gI mi p l e R s m args below meth c Q (pc, lo, st, g, iv) := by
  obtain ⟨x, y, r, rfl, rfl⟩ := pm_i2_inv h
  intro ad ca L H locs cells slots ls hag hpe hls hW hS hc hs
  exact lv_ishr hC.1 hC.2.1 hd (k ad ca L H locs cells slots ls hag hpe hls hW hS hc hs)
theorem pm_g_iushr (hC : pm_Cx X qv D A adI mi p R s m args meth c) (hd : decode (pm_mb mi) pc = .ok (.iushr, 1)) (h : pm_i2 pc lo st g iv (fun x y => (x.toUInt32 >>> (y.toUInt32 &&& Int32.toUInt32 31)).toInt32) = some (.inl S')) (k : pm_Go qv D A adI gI mi p l e R s m args below meth c Q S') : pm_Go qv D A adI gI mi p l e R s m args below meth c Q (pc, lo, st, g, iv) := by
  obtain ⟨x, y, r, rfl, rfl⟩ := pm_i2_inv h
  intro ad ca L H locs cells slots ls hag hpe hls hW hS hc hs
  exact lv_iushr hC.1 hC.2.1 hd rfl (k ad ca L H locs cells slots ls hag hpe hls hW hS hc hs)
theorem pm_g_idiv (hC : pm_Cx X qv D A adI mi p R s m args meth c) (hd : decode (pm_mb mi) pc = .ok (.idiv, 1)) (h : pm_d2 pc lo st g iv (fun x y => x / y) = some (.inl S')) (k : pm_Go qv D A adI gI mi p l e R s m args below meth c Q S') : pm_Go qv D A adI gI mi p l e R s m args below meth c Q (pc, lo, st, g, iv) := by
  obtain ⟨x, y, r, rfl, hy, rfl⟩ := pm_d2_inv h
  intro ad ca L H locs cells slots ls hag hpe hls hW hS hc hs
  exact lv_idiv hC.1 hC.2.1 hd hy (k ad ca L H locs cells slots ls hag hpe hls hW hS hc hs)
theorem pm_g_irem (hC : pm_Cx X qv D A adI mi p R s m args meth c) (hd : decode (pm_mb mi) pc = .ok (.irem, 1)) (h : pm_d2 pc lo st g iv (fun x y => x - x / y * y) = some (.inl S')) (k : pm_Go qv D A adI gI mi p l e R s m args below meth c Q S') : pm_Go qv D A adI gI mi p l e R s m args below meth c Q (pc, lo, st, g, iv) := by
  obtain ⟨x, y, r, rfl, hy, rfl⟩ := pm_d2_inv h
  intro ad ca L H locs cells slots ls hag hpe hls hW hS hc hs
  exact lv_irem hC.1 hC.2.1 hd hy (k ad ca L H locs cells slots ls hag hpe hls hW hS hc hs)
theorem pm_g_ineg (hC : pm_Cx X qv D A adI mi p R s m args meth c) (hd : decode (pm_mb mi) pc = .ok (.ineg, 1)) (h : pm_i1 pc lo st g iv (fun x => -x) = some (.inl S')) (k : pm_Go qv D A adI gI mi p l e R s m args below meth c Q S') : pm_Go qv D A adI gI mi p l e R s m args below meth c Q (pc, lo, st, g, iv) := by
  obtain ⟨x, r, rfl, rfl⟩ := pm_i1_inv h
  intro ad ca L H locs cells slots ls hag hpe hls hW hS hc hs
  exact lv_ineg hC.1 hC.2.1 hd (k ad ca L H locs cells slots ls hag hpe hls hW hS hc hs)
theorem pm_g_i2b (hC : pm_Cx X qv D A adI mi p R s m args meth c) (hd : decode (pm_mb mi) pc = .ok (.i2b, 1)) (h : pm_i1 pc lo st g iv (fun x => x.toInt8.toInt32) = some (.inl S')) (k : pm_Go qv D A adI gI mi p l e R s m args below meth c Q S') : pm_Go qv D A adI gI mi p l e R s m args below meth c Q (pc, lo, st, g, iv) := by
  obtain ⟨x, r, rfl, rfl⟩ := pm_i1_inv h
  intro ad ca L H locs cells slots ls hag hpe hls hW hS hc hs
  exact lv_i2b hC.1 hC.2.1 hd rfl (k ad ca L H locs cells slots ls hag hpe hls hW hS hc hs)
theorem pm_g_i2s (hC : pm_Cx X qv D A adI mi p R s m args meth c) (hd : decode (pm_mb mi) pc = .ok (.i2s, 1)) (h : pm_i1 pc lo st g iv (fun x => x.toInt16.toInt32) = some (.inl S')) (k : pm_Go qv D A adI gI mi p l e R s m args below meth c Q S') : pm_Go qv D A adI gI mi p l e R s m args below meth c Q (pc, lo, st, g, iv) := by
  obtain ⟨x, r, rfl, rfl⟩ := pm_i1_inv h
  intro ad ca L H locs cells slots ls hag hpe hls hW hS hc hs
  exact lv_i2s hC.1 hC.2.1 hd rfl (k ad ca L H locs cells slots ls hag hpe hls hW hS hc hs)
theorem pm_g_i2c (hC : pm_Cx X qv D A adI mi p R s m args meth c) (hd : decode (pm_mb mi) pc = .ok (.i2c, 1)) (h : pm_i1 pc lo st g iv (fun x => (x.toUInt32 % 65536).toInt32) = some (.inl S')) (k : pm_Go qv D A adI gI mi p l e R s m args below meth c Q S') : pm_Go qv D A adI gI mi p l e R s m args below meth c Q (pc, lo, st, g, iv) := by
  obtain ⟨x, r, rfl, rfl⟩ := pm_i1_inv h
  intro ad ca L H locs cells slots ls hag hpe hls hW hS hc hs
  exact lv_i2c hC.1 hC.2.1 hd rfl (k ad ca L H locs cells slots ls hag hpe hls hW hS hc hs)
theorem pm_g_i2l (hC : pm_Cx X qv D A adI mi p R s m args meth c) (hd : decode (pm_mb mi) pc = .ok (.i2l, 1)) (h : pm_il pc lo st g iv (fun x => x.toInt64) = some (.inl S')) (k : pm_Go qv D A adI gI mi p l e R s m args below meth c Q S') : pm_Go qv D A adI gI mi p l e R s m args below meth c Q (pc, lo, st, g, iv) := by
  obtain ⟨x, r, rfl, rfl⟩ := pm_il_inv h
  intro ad ca L H locs cells slots ls hag hpe hls hW hS hc hs
  exact lv_i2l hC.1 hC.2.1 hd rfl (k ad ca L H locs cells slots ls hag hpe hls hW hS hc hs)
theorem pm_g_l2i (hC : pm_Cx X qv D A adI mi p R s m args meth c) (hd : decode (pm_mb mi) pc = .ok (.l2i, 1)) (h : pm_li pc lo st g iv (fun x => x.toInt32) = some (.inl S')) (k : pm_Go qv D A adI gI mi p l e R s m args below meth c Q S') : pm_Go qv D A adI gI mi p l e R s m args below meth c Q (pc, lo, st, g, iv) := by
  obtain ⟨x, r, rfl, rfl⟩ := pm_li_inv h
  intro ad ca L H locs cells slots ls hag hpe hls hW hS hc hs
  exact lv_l2i hC.1 hC.2.1 hd rfl (k ad ca L H locs cells slots ls hag hpe hls hW hS hc hs)
theorem pm_g_ladd (hC : pm_Cx X qv D A adI mi p R s m args meth c) (hd : decode (pm_mb mi) pc = .ok (.ladd, 1)) (h : pm_l2 pc lo st g iv (fun x y => x + y) = some (.inl S')) (k : pm_Go qv D A adI gI mi p l e R s m args below meth c Q S') : pm_Go qv D A adI gI mi p l e R s m args below meth c Q (pc, lo, st, g, iv) := by
  obtain ⟨x, y, r, rfl, rfl⟩ := pm_l2_inv h
  intro ad ca L H locs cells slots ls hag hpe hls hW hS hc hs
  exact lv_ladd hC.1 hC.2.1 hd (k ad ca L H locs cells slots ls hag hpe hls hW hS hc hs)
theorem pm_g_land (hC : pm_Cx X qv D A adI mi p R s m args meth c) (hd : decode (pm_mb mi) pc = .ok (.land, 1)) (h : pm_l2 pc lo st g iv (fun x y => x &&& y) = some (.inl S')) (k : pm_Go qv D A adI gI mi p l e R s m args below meth c Q S') : pm_Go qv D A adI gI mi p l e R s m args below meth c Q (pc, lo, st, g, iv) := by
  obtain ⟨x, y, r, rfl, rfl⟩ := pm_l2_inv h
  intro ad ca L H locs cells slots ls hag hpe hls hW hS hc hs
  exact lv_land hC.1 hC.2.1 hd (k ad ca L H locs cells slots ls hag hpe hls hW hS hc hs)
theorem pm_g_lor (hC : pm_Cx X qv D A adI mi p R s m args meth c) (hd : decode (pm_mb mi) pc = .ok (.lor, 1)) (h : pm_l2 pc lo st g iv (fun x y => x ||| y) = some (.inl S')) (k : pm_Go qv D A adI gI mi p l e R s m args below meth c Q S') : pm_Go qv D A adI gI mi p l e R s m args below meth c Q (pc, lo, st, g, iv) := by
  obtain ⟨x, y, r, rfl, rfl⟩ := pm_l2_inv h
  intro ad ca L H locs cells slots ls hag hpe hls hW hS hc hs
  exact lv_lor hC.1 hC.2.1 hd (k ad ca L H locs cells slots ls hag hpe hls hW hS hc hs)
theorem pm_g_lshl (hC : pm_Cx X qv D A adI mi p R s m args meth c) (hd : decode (pm_mb mi) pc = .ok (.lshl, 1)) (h : pm_ls2 pc lo st g iv (fun x y => x <<< (y.toInt64 &&& 63)) = some (.inl S')) (k : pm_Go qv D A adI gI mi p l e R s m args below meth c Q S') : pm_Go qv D A adI gI mi p l e R s m args below meth c Q (pc, lo, st, g, iv) := by
  obtain ⟨x, y, r, rfl, rfl⟩ := pm_ls2_inv h
  intro ad ca L H locs cells slots ls hag hpe hls hW hS hc hs
  exact lv_lshl hC.1 hC.2.1 hd rfl (k ad ca L H locs cells slots ls hag hpe hls hW hS hc hs)
theorem pm_g_lshr (hC : pm_Cx X qv D A adI mi p R s m args meth c) (hd : decode (pm_mb mi) pc = .ok (.lshr, 1)) (h : pm_ls2 pc lo st g iv (fun x y => x >>> (y.toInt64 &&& 63)) = some (.inl S')) (k : pm_Go qv D A adI gI mi p l e R s m args below meth c Q S') : pm_Go qv D A adI gI mi p l e R s m args below meth c Q (pc, lo, st, g, iv) := by
  obtain ⟨x, y, r, rfl, rfl⟩ := pm_ls2_inv h
  intro ad ca L H locs cells slots ls hag hpe hls hW hS hc hs
  exact lv_lshr hC.1 hC.2.1 hd rfl (k ad ca L H locs cells slots ls hag hpe hls hW hS hc hs)
theorem pm_g_lcmp (hC : pm_Cx X qv D A adI mi p R s m args meth c) (hd : decode (pm_mb mi) pc = .ok (.lcmp, 1)) (h : pm_lc pc lo st g iv = some (.inl S')) (k : pm_Go qv D A adI gI mi p l e R s m args below meth c Q S') : pm_Go qv D A adI gI mi p l e R s m args below meth c Q (pc, lo, st, g, iv) := by
  unfold pm_lc at h
  split at h
  · cases h
    intro ad ca L H locs cells slots ls hag hpe hls hW hS hc hs
    exact W.lcmp hC.1 hC.2.1 hd (k ad ca L H locs cells slots ls hag hpe hls hW hS hc hs)
  · cases h
theorem pm_ifn_inv {c : Prop} [Decidable c] {x : pm_O} {y : pm_S ⊕ pm_R} (h : pm_ifn c x = some y) : c ∧ x = some y := by
  unfold pm_ifn at h
  split at h
  · rename_i q; exact ⟨q, h⟩
  · cases h
theorem pm_cat (v : Value) (hq : qv = .null ∨ ∃ t, qv = .ref t) {ad : Nat → Nat} (h : v.category = 1) : (pm_cv ad qv v).category = 1 := by rw [pm_cv_cat hq]; exact h

theorem pm_g_dup (hC : pm_Cx X qv D A adI mi p R s m args meth c) (hd : decode (pm_mb mi) pc = .ok (.dup, 1)) (h : pm_dup pc lo st g iv = some (.inl S')) (k : pm_Go qv D A adI gI mi p l e R s m args below meth c Q S') : pm_Go qv D A adI gI mi p l e R s m args below meth c Q (pc, lo, st, g, iv) := by
  unfold pm_dup at h
  split at h
  · obtain ⟨h1, h2⟩ := pm_ifn_inv h
    cases h2
    intro ad ca L H locs cells slots ls hag hpe hls hW hS hc hs
    exact lv_dup hC.1 hC.2.1 hd (pm_cat _ hC.2.2.2.2.2.2.2.1.2.2.2.2.1 h1) (k ad ca L H locs cells slots ls hag hpe hls hW hS hc hs)
  · cases h
theorem pm_g_dup2 (hC : pm_Cx X qv D A adI mi p R s m args meth c) (hd : decode (pm_mb mi) pc = .ok (.dup2, 1)) (h : pm_dp2 pc lo st g iv = some (.inl S')) (k : pm_Go qv D A adI gI mi p l e R s m args below meth c Q S') : pm_Go qv D A adI gI mi p l e R s m args below meth c Q (pc, lo, st, g, iv) := by
  unfold pm_dp2 at h
  split at h
  · obtain ⟨h1, h2⟩ := pm_ifn_inv h
    cases h2
    intro ad ca L H locs cells slots ls hag hpe hls hW hS hc hs
    exact lv_dup2_11 hC.1 hC.2.1 hd (pm_cat _ hC.2.2.2.2.2.2.2.1.2.2.2.2.1 h1.1) (pm_cat _ hC.2.2.2.2.2.2.2.1.2.2.2.2.1 h1.2) (k ad ca L H locs cells slots ls hag hpe hls hW hS hc hs)
  · cases h
theorem pm_g_pop (hC : pm_Cx X qv D A adI mi p R s m args meth c) (hd : decode (pm_mb mi) pc = .ok (.pop, 1)) (h : pm_pop pc lo st g iv = some (.inl S')) (k : pm_Go qv D A adI gI mi p l e R s m args below meth c Q S') : pm_Go qv D A adI gI mi p l e R s m args below meth c Q (pc, lo, st, g, iv) := by
  unfold pm_pop at h
  split at h
  · obtain ⟨h1, h2⟩ := pm_ifn_inv h
    cases h2
    intro ad ca L H locs cells slots ls hag hpe hls hW hS hc hs
    exact lv_pop hC.1 hC.2.1 hd (pm_cat _ hC.2.2.2.2.2.2.2.1.2.2.2.2.1 h1) (k ad ca L H locs cells slots ls hag hpe hls hW hS hc hs)
  · cases h
theorem pm_jmp_inv {off : Int} {r : List Value} (h : pm_jmp pc lo g iv off r = some (.inl S')) : ∃ t : Nat, (pc : Int) + off = (t : Int) ∧ S' = (t, lo, r, g, iv) := by
  obtain ⟨h1, h2⟩ := pm_ifn_inv h
  cases h2
  exact ⟨((pc : Int) + off).toNat, (Int.toNat_of_nonneg h1).symm, rfl⟩
theorem pm_g_goto (hC : pm_Cx X qv D A adI mi p R s m args meth c) {off : Int} (hd : decode (pm_mb mi) pc = .ok (.goto off, 3)) (h : pm_jmp pc lo g iv off st = some (.inl S')) (k : pm_Go qv D A adI gI mi p l e R s m args below meth c Q S') : pm_Go qv D A adI gI mi p l e R s m args below meth c Q (pc, lo, st, g, iv) := by
  obtain ⟨t, ht, rfl⟩ := pm_jmp_inv h
  intro ad ca L H locs cells slots ls hag hpe hls hW hS hc hs
  exact lv_goto hC.1 hC.2.1 hd ht (k ad ca L H locs cells slots ls hag hpe hls hW hS hc hs)
theorem pm_g_if_eq (hC : pm_Cx X qv D A adI mi p R s m args meth c) {off : Int} (hd : decode (pm_mb mi) pc = .ok (.ifCond .eq off, 3)) (h : pm_br1 pc lo st g iv (pm_cd1 .eq) off = some (.inl S')) (k : pm_Go qv D A adI gI mi p l e R s m args below meth c Q S') : pm_Go qv D A adI gI mi p l e R s m args below meth c Q (pc, lo, st, g, iv) := by
  unfold pm_br1 at h
  split at h
  · obtain ⟨hj, h⟩ := pm_ifn_inv h
    split at h
    · rename_i hcd
      cases h
      intro ad ca L H locs cells slots ls hag hpe hls hW hS hc hs
      exact lv_if_eq hC.1 hC.2.1 hd (Int.toNat_of_nonneg hj).symm (fun _ => k ad ca L H locs cells slots ls hag hpe hls hW hS hc hs) (fun hn => absurd (of_decide_eq_true hcd) hn)
    · rename_i hcd
      cases h
      intro ad ca L H locs cells slots ls hag hpe hls hW hS hc hs
      exact lv_if_eq hC.1 hC.2.1 hd (Int.toNat_of_nonneg hj).symm (fun hn => absurd (decide_eq_true hn) hcd) (fun _ => k ad ca L H locs cells slots ls hag hpe hls hW hS hc hs)
  · cases h
theorem pm_g_icmp_eq (hC : pm_Cx X qv D A adI mi p R s m args meth c) {off : Int} (hd : decode (pm_mb mi) pc = .ok (.if_icmp .eq off, 3)) (h : pm_br2 pc lo st g iv (pm_cd2 .eq) off = some (.inl S')) (k : pm_Go qv D A adI gI mi p l e R s m args below meth c Q S') : pm_Go qv D A adI gI mi p l e R s m args below meth c Q (pc, lo, st, g, iv) := by
  unfold pm_br2 at h
  split at h
  · obtain ⟨hj, h⟩ := pm_ifn_inv h
    split at h
    · rename_i hcd
      cases h
      intro ad ca L H locs cells slots ls hag hpe hls hW hS hc hs
      exact lv_icmp_eq hC.1 hC.2.1 hd (Int.toNat_of_nonneg hj).symm (fun _ => k ad ca L H locs cells slots ls hag hpe hls hW hS hc hs) (fun hn => absurd (of_decide_eq_true hcd) hn)
    · rename_i hcd
      cases h
      intro ad ca L H locs cells slots ls hag hpe hls hW hS hc hs
      exact lv_icmp_eq hC.1 hC.2.1 hd (Int.toNat_of_nonneg hj).symm (fun hn => absurd (decide_eq_true hn) hcd) (fun _ => k ad ca L H locs cells slots ls hag hpe hls hW hS hc hs)
  · cases h
theorem pm_g_if_ne (hC : pm_Cx X qv D A adI mi p R s m args meth c) {off : Int} (hd : decode (pm_mb mi) pc = .ok (.ifCond .ne off, 3)) (h : pm_br1 pc lo st g iv (pm_cd1 .ne) off = some (.inl S')) (k : pm_Go qv D A adI gI mi p l e R s m args below meth c Q S') : pm_Go qv D A adI gI mi p l e R s m args below meth c Q (pc, lo, st, g, iv) := by
  unfold pm_br1 at h
  split at h
  · obtain ⟨hj, h⟩ := pm_ifn_inv h
    split at h
    · rename_i hcd
      cases h
      intro ad ca L H locs cells slots ls hag hpe hls hW hS hc hs
      exact lv_if_ne hC.1 hC.2.1 hd (Int.toNat_of_nonneg hj).symm (fun _ => k ad ca L H locs cells slots ls hag hpe hls hW hS hc hs) (fun hn => absurd hn (of_decide_eq_true hcd))
    · rename_i hcd
      cases h
      intro ad ca L H locs cells slots ls hag hpe hls hW hS hc hs
      exact lv_if_ne hC.1 hC.2.1 hd (Int.toNat_of_nonneg hj).symm (fun hn => absurd (decide_eq_true hn) hcd) (fun _ => k ad ca L H locs cells slots ls hag hpe hls hW hS hc hs)
  · cases h
theorem pm_g_icmp_ne (hC : pm_Cx X qv D A adI mi p R s m args meth c) {off : Int} (hd : decode (pm_mb mi) pc = .ok (.if_icmp .ne off, 3)) (h : pm_br2 pc lo st g iv (pm_cd2 .ne) off = some (.inl S')) (k : pm_Go qv D A adI gI mi p l e R s m args below meth c Q S') : pm_Go qv D A adI gI mi p l e R s m args below meth c Q (pc, lo, st, g, iv) := by
  unfold pm_br2 at h
  split at h
  · obtain ⟨hj, h⟩ := pm_ifn_inv h
    split at h
    · rename_i hcd
      cases h
      intro ad ca L H locs cells slots ls hag hpe hls hW hS hc hs
      exact lv_icmp_ne hC.1 hC.2.1 hd (Int.toNat_of_nonneg hj).symm (fun _ => k ad ca L H locs cells slots ls hag hpe hls hW hS hc hs) (fun hn => absurd hn (of_decide_eq_true hcd))
    · rename_i hcd
      cases h
      intro ad ca L H locs cells slots ls hag hpe hls hW hS hc hs
      exact lv_icmp_ne hC.1 hC.2.1 hd (Int.toNat_of_nonneg hj).symm (fun hn => absurd (decide_eq_true hn) hcd) (fun _ => k ad ca L H locs cells slots ls hag hpe hls hW hS hc hs)
  · cases h
theorem pm_g_if_lt (hC : pm_Cx X qv D A adI mi p R s m args meth c) {off : Int} (hd : decode (pm_mb mi) pc = .ok (.ifCond .lt off, 3)) (h : pm_br1 pc lo st g iv (pm_cd1 .lt) off = some (.inl S')) (k : pm_Go qv D A adI gI mi p l e R s m args below meth c Q S') : pm_Go qv D A adI gI mi p l e R s m args below meth c Q (pc, lo, st, g, iv) := by
  unfold pm_br1 at h
  split at h
  · obtain ⟨hj, h⟩ := pm_ifn_inv h
    split at h
    · rename_i hcd
      cases h
      intro ad ca L H locs cells slots ls hag hpe hls hW hS hc hs
      exact lv_if_lt hC.1 hC.2.1 hd (Int.toNat_of_nonneg hj).symm (fun _ => k ad ca L H locs cells slots ls hag hpe hls hW hS hc hs) (fun hn => absurd (of_decide_eq_true hcd) hn)
    · rename_i hcd
      cases h
      intro ad ca L H locs cells slots ls hag hpe hls hW hS hc hs
      exact lv_if_lt hC.1 hC.2.1 hd (Int.toNat_of_nonneg hj).symm (fun hn => absurd (decide_eq_true hn) hcd) (fun _ => k ad ca L H locs cells slots ls hag hpe hls hW hS hc hs)
  · cases h
theorem pm_g_icmp_lt (hC : pm_Cx X qv D A adI mi p R s m args meth c) {off : Int} (hd : decode (pm_mb mi) pc = .ok (.if_icmp .lt off, 3)) (h : pm_br2 pc lo st g iv (pm_cd2 .lt) off = some (.inl S')) (k : pm_Go qv D A adI gI mi p l e R s m args below meth c Q S') : pm_Go qv D A adI gI mi p l e R s m args below meth c Q (pc, lo, st, g, iv) := by
  unfold pm_br2 at h
  split at h
  · obtain ⟨hj, h⟩ := pm_ifn_inv h
    split at h
    · rename_i hcd
      cases h
      intro ad ca L H locs cells slots ls hag hpe hls hW hS hc hs
      exact lv_icmp_lt hC.1 hC.2.1 hd (Int.toNat_of_nonneg hj).symm (fun _ => k ad ca L H locs cells slots ls hag hpe hls hW hS hc hs) (fun hn => absurd (of_decide_eq_true hcd) hn)
    · rename_i hcd
      cases h
      intro ad ca L H locs cells slots ls hag hpe hls hW hS hc hs
      exact lv_icmp_lt hC.1 hC.2.1 hd (Int.toNat_of_nonneg hj).symm (fun hn => absurd (decide_eq_true hn) hcd) (fun _ => k ad ca L H locs cells slots ls hag hpe hls hW hS hc hs)
  · cases h
theorem pm_g_if_ge (hC : pm_Cx X qv D A adI mi p R s m args meth c) {off : Int} (hd : decode (pm_mb mi) pc = .ok (.ifCond .ge off, 3)) (h : pm_br1 pc lo st g iv (pm_cd1 .ge) off = some (.inl S')) (k : pm_Go qv D A adI gI mi p l e R s m args below meth c Q S') : pm_Go qv D A adI gI mi p l e R s m args below meth c Q (pc, lo, st, g, iv) := by
  unfold pm_br1 at h
  split at h
  · obtain ⟨hj, h⟩ := pm_ifn_inv h
    split at h
    · rename_i hcd
      cases h
      intro ad ca L H locs cells slots ls hag hpe hls hW hS hc hs
      exact lv_if_ge hC.1 hC.2.1 hd (Int.toNat_of_nonneg hj).symm (fun _ => k ad ca L H locs cells slots ls hag hpe hls hW hS hc hs) (fun hn => absurd (of_decide_eq_true hcd) hn)
    · rename_i hcd
      cases h
      intro ad ca L H locs cells slots ls hag hpe hls hW hS hc hs
      exact lv_if_ge hC.1 hC.2.1 hd (Int.toNat_of_nonneg hj).symm (fun hn => absurd (decide_eq_true hn) hcd) (fun _ => k ad ca L H locs cells slots ls hag hpe hls hW hS hc hs)
  · cases h
theorem pm_g_icmp_ge (hC : pm_Cx X qv D A adI mi p R s m args meth c) {off : Int} (hd : decode (pm_mb mi) pc = .ok (.if_icmp .ge off, 3)) (h : pm_br2 pc lo st g iv (pm_cd2 .ge) off = some (.inl S')) (k : pm_Go qv D A adI gI mi p l e R s m args below meth c Q S') : pm_Go qv D A adI gI mi p l e R s m args below meth c Q (pc, lo, st, g, iv) := by
  unfold pm_br2 at h
  split at h
  · obtain ⟨hj, h⟩ := pm_ifn_inv h
    split at h
    · rename_i hcd
      cases h
      intro ad ca L H locs cells slots ls hag hpe hls hW hS hc hs
      exact lv_icmp_ge hC.1 hC.2.1 hd (Int.toNat_of_nonneg hj).symm (fun _ => k ad ca L H locs cells slots ls hag hpe hls hW hS hc hs) (fun hn => absurd (of_decide_eq_true hcd) hn)
    · rename_i hcd
      cases h
      intro ad ca L H locs cells slots ls hag hpe hls hW hS hc hs
      exact lv_icmp_ge hC.1 hC.2.1 hd (Int.toNat_of_nonneg hj).symm (fun hn => absurd (decide_eq_true hn) hcd) (fun _ => k ad ca L H locs cells slots ls hag hpe hls hW hS hc hs)
  · cases h
theorem pm_g_if_gt (hC : pm_Cx X qv D A adI mi p R s m args meth c) {off : Int} (hd : decode (pm_mb mi) pc = .ok (.ifCond .gt off, 3)) (h : pm_br1 pc lo st g iv (pm_cd1 .gt) off = some (.inl S')) (k : pm_Go qv D A adI gI mi p l e R s m args below meth c Q S') : pm_Go qv D A adI gI mi p l e R s m args below meth c Q (pc, lo, st, g, iv) := by
  unfold pm_br1 at h
  split at h
  · obtain ⟨hj, h⟩ := pm_ifn_inv h
    split at h
    · rename_i hcd
      cases h
      intro ad ca L H locs cells slots ls hag hpe hls hW hS hc hs
      exact lv_if_gt hC.1 hC.2.1 hd (Int.toNat_of_nonneg hj).symm (fun _ => k ad ca L H locs cells slots ls hag hpe hls hW hS hc hs) (fun hn => absurd (of_decide_eq_true hcd) hn)
    · rename_i hcd
      cases h
      intro ad ca L H locs cells slots ls hag hpe hls hW hS hc hs
      exact lv_if_gt hC.1 hC.2.1 hd (Int.toNat_of_nonneg hj).symm (fun hn => absurd (decide_eq_true hn) hcd) (fun _ => k ad ca L H locs cells slots ls hag hpe hls hW hS hc hs)
  · cases h
theorem pm_g_icmp_gt (hC : pm_Cx X qv D A adI mi p R s m args meth c) {off : Int} (hd : decode (pm_mb mi) pc = .ok (.if_icmp .gt off, 3)) (h : pm_br2 pc lo st g iv (pm_cd2 .gt) off = some (.inl S')) (k : pm_Go qv D A adI gI mi p l e R s m args below meth c Q S') : pm_Go qv D A adI gI mi p l e R s m args below meth c Q (pc, lo, st, g, iv) := by
  unfold pm_br2 at h
  split at h
  · obtain ⟨hj, h⟩ := pm_ifn_inv h
    split at h
    · rename_i hcd
      cases h
      intro ad ca L H locs cells slots ls hag hpe hls hW hS hc hs
      exact lv_icmp_gt hC.1 hC.2.1 hd (Int.toNat_of_nonneg hj).symm (fun _ => k ad ca L H locs cells slots ls hag hpe hls hW hS hc hs) (fun hn => absurd (of_decide_eq_true hcd) hn)
    · rename_i hcd
      cases h
      intro ad ca L H locs cells slots ls hag hpe hls hW hS hc hs
      exact lv_icmp_gt hC.1 hC.2.1 hd (Int.toNat_of_nonneg hj).symm (fun hn => absurd (decide_eq_true hn) hcd) (fun _ => k ad ca L H locs cells slots ls hag hpe hls hW hS hc hs)
  · cases h
theorem pm_g_if_le (hC : pm_Cx X qv D A adI mi p R s m args meth c) {off : Int} (hd : decode (pm_mb mi) pc = .ok (.ifCond .le off, 3)) (h : pm_br1 pc lo st g iv (pm_cd1 .le) off = some (.inl S')) (k : pm_Go qv D A adI gI mi p l e R s m args below meth c Q S') : pm_Go qv D A adI gI mi p l e R s m args below meth c Q (pc, lo, st, g, iv) := by
  unfold pm_br1 at h
  split at h
  · obtain ⟨hj, h⟩ := pm_ifn_inv h
    split at h
    · rename_i hcd
      cases h
      intro ad ca L H locs cells slots ls hag hpe hls hW hS hc hs
      exact lv_if_le hC.1 hC.2.1 hd (Int.toNat_of_nonneg hj).symm (fun _ => k ad ca L H locs cells slots ls hag hpe hls hW hS hc hs) (fun hn => absurd (of_decide_eq_true hcd) hn)
    · rename_i hcd
      cases h
      intro ad ca L H locs cells slots ls hag hpe hls hW hS hc hs
      exact lv_if_le hC.1 hC.2.1 hd (Int.toNat_of_nonneg hj).symm (fun hn => absurd (decide_eq_true hn) hcd) (fun _ => k ad ca L H locs cells slots ls hag hpe hls hW hS hc hs)
  · cases h
theorem pm_g_icmp_le (hC : pm_Cx X qv D A adI mi p R s m args meth c) {off : Int} (hd : decode (pm_mb mi) pc = .ok (.if_icmp .le off, 3)) (h : pm_br2 pc lo st g iv (pm_cd2 .le) off = some (.inl S')) (k : pm_Go qv D A adI gI mi p l e R s m args below meth c Q S') : pm_Go qv D A adI gI mi p l e R s m args below meth c Q (pc, lo, st, g, iv) := by
  unfold pm_br2 at h
  split at h
  · obtain ⟨hj, h⟩ := pm_ifn_inv h
    split at h
    · rename_i hcd
      cases h
      intro ad ca L H locs cells slots ls hag hpe hls hW hS hc hs
      exact lv_icmp_le hC.1 hC.2.1 hd (Int.toNat_of_nonneg hj).symm (fun _ => k ad ca L H locs cells slots ls hag hpe hls hW hS hc hs) (fun hn => absurd (of_decide_eq_true hcd) hn)
    · rename_i hcd
      cases h
      intro ad ca L H locs cells slots ls hag hpe hls hW hS hc hs
      exact lv_icmp_le hC.1 hC.2.1 hd (Int.toNat_of_nonneg hj).symm (fun hn => absurd (decide_eq_true hn) hcd) (fun _ => k ad ca L H locs cells slots ls hag hpe hls hW hS hc hs)
  · cases h
end SND
end
section
/-! what every step keeps: references lead to cells that are there; cells stay -/
def pm_okt (g : pm_G) (t : Nat) : Prop := g.1 t ≠ none ∨ 1000 ≤ t
def pm_okv (g : pm_G) (v : Value) : Prop := ∀ t, v = .ref t → pm_okt g t
def pm_okg (g : pm_G) : Prop := ∀ k sl t, g.2.1 k sl = some t → pm_okt g t
def pm_Iv (S : pm_S) : Prop := pm_okg S.2.2.2.1 ∧ (∀ v ∈ S.2.2.1, pm_okv S.2.2.2.1 v) ∧ ∀ v, some v ∈ S.2.1 → pm_okv S.2.2.2.1 v
def pm_le (g g' : pm_G) : Prop := (∀ k, g.1 k ≠ none → g'.1 k = g.1 k) ∧ g.2.2.2.1 ≤ g'.2.2.2.1 ∧ g.2.2.2.2 ≤ g'.2.2.2.2
theorem pm_le.rf {g : pm_G} : pm_le g g := ⟨fun _ _ => rfl, Nat.le_refl _, Nat.le_refl _⟩
theorem pm_le.tr {a b c : pm_G} (h : pm_le a b) (h2 : pm_le b c) : pm_le a c := ⟨fun k hk => (h2.1 k (by rw [h.1 k hk]; exact hk)).trans (h.1 k hk), Nat.le_trans h.2.1 h2.2.1, Nat.le_trans h.2.2 h2.2.2⟩
theorem pm_le.okt {g g' : pm_G} (h : pm_le g g') {t : Nat} (ht : pm_okt g t) : pm_okt g' t := ht.imp (fun q => by rw [h.1 t q]; exact q) id
theorem pm_le.okv {g g' : pm_G} (h : pm_le g g') {v : Value} (hv : pm_okv g v) : pm_okv g' v := fun t e => h.okt (hv t e)
theorem pm_okI {g : pm_G} {x : Int32} : pm_okv g (.int x) := fun t e => by cases e
theorem pm_okL {g : pm_G} {x : Int64} : pm_okv g (.long x) := fun t e => by cases e
theorem pm_okN {g : pm_G} : pm_okv g .null := fun t e => by cases e
theorem pm_okA {g : pm_G} {x : Nat} : pm_okv g (.retAddr x) := fun t e => by cases e
theorem pm_okR {g : pm_G} {x : Nat} (h : pm_okt g x) : pm_okv g (.ref x) := fun t e => by cases e; exact h
theorem pm_okX {g : pm_G} {x : Nat} (h : 1000 ≤ x) : pm_okv g (.ref x) := pm_okR (Or.inr h)
theorem pm_okF {g : pm_G} (hg : pm_okg g) {k sl : Nat} : pm_okv g (va_rf (g.2.1 k sl)) := by
  intro t e
  cases h : g.2.1 k sl with
  | none => rw [h] at e; cases e
  | some q => rw [h] at e; cases e; exact hg k sl _ h
section INV
variable {X : pm_X} {cal : pm_C} {mi pc pc' : Nat} {lo lo' : List (Option Value)} {st st' r : List Value} {g : pm_G} {iv iv' : pm_V} {S' : pm_S}
/-- g stays -/
theorem pm_iv_go (hI : pm_Iv (pc, lo, st, g, iv)) (hs : ∀ v ∈ st', pm_okv g v) : pm_Iv (pc', lo, st', g, iv') ∧ pm_le g g := ⟨⟨hI.1, hs, hI.2.2⟩, pm_le.rf⟩
theorem pm_iv_lo (hI : pm_Iv (pc, lo, st, g, iv)) (hs : ∀ v ∈ st', pm_okv g v) (hl : ∀ v, some v ∈ lo' → some v ∈ lo ∨ pm_okv g v) : pm_Iv (pc', lo', st', g, iv') ∧ pm_le g g := ⟨⟨hI.1, hs, fun v hv => (hl v hv).elim (hI.2.2 v) id⟩, pm_le.rf⟩
theorem pm_s1_in {i : Nat} {v w : Value} (h : pm_s1 lo i v = some lo') (hw : some w ∈ lo') : some w ∈ lo ∨ w = v := by
  unfold pm_s1 at h
  split at h
  · cases h
    rcases List.mem_or_eq_of_mem_set hw with q | q
    · exact Or.inl q
    · exact Or.inr (Option.some.inj q)
  · cases h
theorem pm_s2_in {i : Nat} {v w : Value} (h : pm_s2 lo i v = some lo') (hw : some w ∈ lo') : some w ∈ lo ∨ w = v := by
  unfold pm_s2 at h
  split at h
  · cases h
    rcases List.mem_or_eq_of_mem_set hw with q | q
    · rcases List.mem_or_eq_of_mem_set q with q | q
      · exact Or.inl q
      · exact Or.inr (Option.some.inj q)
    · cases q
  · cases h
theorem pm_s1_ok {i : Nat} {v : Value} (h : pm_s1 lo i v = some lo') (hv : pm_okv g v) : ∀ w, some w ∈ lo' → some w ∈ lo ∨ pm_okv g w := fun w hw => (pm_s1_in h hw).elim Or.inl (fun e => Or.inr (by rw [e]; exact hv))
theorem pm_s2_ok {i : Nat} {v : Value} (h : pm_s2 lo i v = some lo') (hv : pm_okv g v) : ∀ w, some w ∈ lo' → some w ∈ lo ∨ pm_okv g w := fun w hw => (pm_s2_in h hw).elim Or.inl (fun e => Or.inr (by rw [e]; exact hv))
theorem pm_tl {v : Value} (h : ∀ w ∈ v :: r, pm_okv g w) : ∀ w ∈ r, pm_okv g w := fun w hw => h w (List.mem_cons_of_mem _ hw)
theorem pm_cns {v : Value} (hv : pm_okv g v) (h : ∀ w ∈ r, pm_okv g w) : ∀ w ∈ v :: r, pm_okv g w := fun w hw => (List.mem_cons.mp hw).elim (fun e => e ▸ hv) (h w)
theorem pm_v_psh {n : Nat} {v : Value} (hv : pm_okv g v) (h : pm_psh pc lo st g iv n v = some (.inl S')) (hI : pm_Iv (pc, lo, st, g, iv)) : pm_Iv S' ∧ pm_le g S'.2.2.2.1 := by
  cases h
  exact pm_iv_go hI (pm_cns hv hI.2.1)
theorem pm_v_ldI {n i : Nat} (h : pm_ldI pc lo st g iv n i = some (.inl S')) (hI : pm_Iv (pc, lo, st, g, iv)) : pm_Iv S' ∧ pm_le g S'.2.2.2.1 := by
  obtain ⟨x, hx, rfl⟩ := pm_ldI_inv h
  exact pm_iv_go hI (pm_cns pm_okI hI.2.1)
theorem pm_v_ldL {n i : Nat} (h : pm_ldL pc lo st g iv n i = some (.inl S')) (hI : pm_Iv (pc, lo, st, g, iv)) : pm_Iv S' ∧ pm_le g S'.2.2.2.1 := by
  obtain ⟨x, hx, rfl⟩ := pm_ldL_inv h
  exact pm_iv_go hI (pm_cns pm_okL hI.2.1)
theorem pm_v_ldA {n i : Nat} (h : pm_ldA pc lo st g iv n i = some (.inl S')) (hI : pm_Iv (pc, lo, st, g, iv)) : pm_Iv S' ∧ pm_le g S'.2.2.2.1 := by
  unfold pm_ldA at h
  split at h
  · rename_i x hx
    cases h
    exact pm_iv_go hI (pm_cns (hI.2.2 _ (List.mem_of_getElem? hx)) hI.2.1)
  · cases h
    exact pm_iv_go hI (pm_cns pm_okN hI.2.1)
  · cases h
    exact pm_iv_go hI (pm_cns pm_okA hI.2.1)
  · cases h
theorem pm_v_stI {n i : Nat} (h : pm_stI pc lo st g iv n i = some (.inl S')) (hI : pm_Iv (pc, lo, st, g, iv)) : pm_Iv S' ∧ pm_le g S'.2.2.2.1 := by
  obtain ⟨x, r, lo1, rfl, hl, rfl⟩ := pm_stI_inv h
  exact pm_iv_lo hI (pm_tl hI.2.1) (pm_s1_ok hl (pm_okI))
theorem pm_v_stL {n i : Nat} (h : pm_stL pc lo st g iv n i = some (.inl S')) (hI : pm_Iv (pc, lo, st, g, iv)) : pm_Iv S' ∧ pm_le g S'.2.2.2.1 := by
  obtain ⟨x, r, lo1, rfl, hl, rfl⟩ := pm_stL_inv h
  exact pm_iv_lo hI (pm_tl hI.2.1) (pm_s2_ok hl (pm_okL))
theorem pm_v_stA {n i : Nat} (h : pm_stA pc lo st g iv n i = some (.inl S')) (hI : pm_Iv (pc, lo, st, g, iv)) : pm_Iv S' ∧ pm_le g S'.2.2.2.1 := by
  unfold pm_stA at h
  split at h
  · split at h
    · rename_i hl
      cases h
      exact pm_iv_lo hI (pm_tl hI.2.1) (pm_s1_ok hl (hI.2.1 _ List.mem_cons_self))
    · cases h
  · split at h
    · rename_i hl
      cases h
      exact pm_iv_lo hI (pm_tl hI.2.1) (pm_s1_ok hl (pm_okN))
    · cases h
  · cases h
theorem pm_v_inc {i : Nat} {n : Int} (h : pm_inc pc lo st g iv i n = some (.inl S')) (hI : pm_Iv (pc, lo, st, g, iv)) : pm_Iv S' ∧ pm_le g S'.2.2.2.1 := by
  unfold pm_inc at h
  split at h
  · split at h
    · rename_i hl
      cases h
      exact pm_iv_lo hI hI.2.1 (pm_s1_ok hl (pm_okI))
    · cases h
  · cases h
theorem pm_v_i1 {f : Int32 → Int32} (h : pm_i1 pc lo st g iv f = some (.inl S')) (hI : pm_Iv (pc, lo, st, g, iv)) : pm_Iv S' ∧ pm_le g S'.2.2.2.1 := by
  obtain ⟨x, r, rfl, rfl⟩ := pm_i1_inv h
  exact pm_iv_go hI (pm_cns pm_okI (pm_tl hI.2.1))
theorem pm_v_i2 {f : Int32 → Int32 → Int32} (h : pm_i2 pc lo st g iv f = some (.inl S')) (hI : pm_Iv (pc, lo, st, g, iv)) : pm_Iv S' ∧ pm_le g S'.2.2.2.1 := by
  obtain ⟨x, y, r, rfl, rfl⟩ := pm_i2_inv h
  exact pm_iv_go hI (pm_cns pm_okI (pm_tl (pm_tl hI.2.1)))
theorem pm_v_d2 {f : Int32 → Int32 → Int32} (h : pm_d2 pc lo st g iv f = some (.inl S')) (hI : pm_Iv (pc, lo, st, g, iv)) : pm_Iv S' ∧ pm_le g S'.2.2.2.1 := by
  obtain ⟨x, y, r, rfl, hy, rfl⟩ := pm_d2_inv h
  exact pm_iv_go hI (pm_cns pm_okI (pm_tl (pm_tl hI.2.1)))
theorem pm_v_l2 {f : Int64 → Int64 → Int64} (h : pm_l2 pc lo st g iv f = some (.inl S')) (hI : pm_Iv (pc, lo, st, g, iv)) : pm_Iv S' ∧ pm_le g S'.2.2.2.1 := by
  obtain ⟨x, y, r, rfl, rfl⟩ := pm_l2_inv h
  exact pm_iv_go hI (pm_cns pm_okL (pm_tl (pm_tl hI.2.1)))
theorem pm_v_ls2 {f : Int64 → Int32 → Int64} (h : pm_ls2 pc lo st g iv f = some (.inl S')) (hI : pm_Iv (pc, lo, st, g, iv)) : pm_Iv S' ∧ pm_le g S'.2.2.2.1 := by
  obtain ⟨x, y, r, rfl, rfl⟩ := pm_ls2_inv h
  exact pm_iv_go hI (pm_cns pm_okL (pm_tl (pm_tl hI.2.1)))
theorem pm_v_il {f : Int32 → Int64} (h : pm_il pc lo st g iv f = some (.inl S')) (hI : pm_Iv (pc, lo, st, g, iv)) : pm_Iv S' ∧ pm_le g S'.2.2.2.1 := by
  obtain ⟨x, r, rfl, rfl⟩ := pm_il_inv h
  exact pm_iv_go hI (pm_cns pm_okL (pm_tl hI.2.1))
theorem pm_v_li {f : Int64 → Int32} (h : pm_li pc lo st g iv f = some (.inl S')) (hI : pm_Iv (pc, lo, st, g, iv)) : pm_Iv S' ∧ pm_le g S'.2.2.2.1 := by
  obtain ⟨x, r, rfl, rfl⟩ := pm_li_inv h
  exact pm_iv_go hI (pm_cns pm_okI (pm_tl hI.2.1))
theorem pm_v_lc (h : pm_lc pc lo st g iv = some (.inl S')) (hI : pm_Iv (pc, lo, st, g, iv)) : pm_Iv S' ∧ pm_le g S'.2.2.2.1 := by
  unfold pm_lc at h
  split at h
  · cases h
    exact pm_iv_go hI (pm_cns pm_okI (pm_tl (pm_tl hI.2.1)))
  · cases h
theorem pm_v_dup (h : pm_dup pc lo st g iv = some (.inl S')) (hI : pm_Iv (pc, lo, st, g, iv)) : pm_Iv S' ∧ pm_le g S'.2.2.2.1 := by
  unfold pm_dup at h
  split at h
  · obtain ⟨-, h2⟩ := pm_ifn_inv h
    cases h2
    exact pm_iv_go hI (pm_cns (hI.2.1 _ List.mem_cons_self) hI.2.1)
  · cases h
theorem pm_v_dp2 (h : pm_dp2 pc lo st g iv = some (.inl S')) (hI : pm_Iv (pc, lo, st, g, iv)) : pm_Iv S' ∧ pm_le g S'.2.2.2.1 := by
  unfold pm_dp2 at h
  split at h
  · obtain ⟨-, h2⟩ := pm_ifn_inv h
    cases h2
    exact pm_iv_go hI (pm_cns (hI.2.1 _ List.mem_cons_self) (pm_cns (hI.2.1 _ (List.mem_cons_of_mem _ List.mem_cons_self)) hI.2.1))
  · cases h
theorem pm_v_pop (h : pm_pop pc lo st g iv = some (.inl S')) (hI : pm_Iv (pc, lo, st, g, iv)) : pm_Iv S' ∧ pm_le g S'.2.2.2.1 := by
  unfold pm_pop at h
  split at h
  · obtain ⟨-, h2⟩ := pm_ifn_inv h
    cases h2
    exact pm_iv_go hI (pm_tl hI.2.1)
  · cases h
theorem pm_v_jmp {off : Int} (h : pm_jmp pc lo g iv off r = some (.inl S')) (hI : pm_Iv (pc, lo, st, g, iv)) (hr : ∀ v ∈ r, pm_okv g v) : pm_Iv S' ∧ pm_le g S'.2.2.2.1 := by
  obtain ⟨t, -, rfl⟩ := pm_jmp_inv h
  exact pm_iv_go hI hr
theorem pm_v_br1 {c : Int32 → Bool} {off : Int} (h : pm_br1 pc lo st g iv c off = some (.inl S')) (hI : pm_Iv (pc, lo, st, g, iv)) : pm_Iv S' ∧ pm_le g S'.2.2.2.1 := by
  unfold pm_br1 at h
  split at h
  · obtain ⟨-, h⟩ := pm_ifn_inv h
    split at h <;> (cases h; exact pm_iv_go hI (pm_tl hI.2.1))
  · cases h
theorem pm_v_br2 {c : Int32 → Int32 → Bool} {off : Int} (h : pm_br2 pc lo st g iv c off = some (.inl S')) (hI : pm_Iv (pc, lo, st, g, iv)) : pm_Iv S' ∧ pm_le g S'.2.2.2.1 := by
  unfold pm_br2 at h
  split at h
  · obtain ⟨-, h⟩ := pm_ifn_inv h
    split at h <;> (cases h; exact pm_iv_go hI (pm_tl (pm_tl hI.2.1)))
  · cases h
theorem pm_v_nn {off : Int} (h : pm_nn pc lo st g iv off = some (.inl S')) (hI : pm_Iv (pc, lo, st, g, iv)) : pm_Iv S' ∧ pm_le g S'.2.2.2.1 := by
  unfold pm_nn at h
  split at h
  · exact pm_v_jmp h hI (pm_tl hI.2.1)
  · cases h
    exact pm_iv_go hI (pm_tl hI.2.1)
  · cases h
theorem pm_v_tsw {d l u : Int} {os : Array Int} (h : pm_tsw pc lo st g iv d l u os = some (.inl S')) (hI : pm_Iv (pc, lo, st, g, iv)) : pm_Iv S' ∧ pm_le g S'.2.2.2.1 := by
  unfold pm_tsw at h
  split at h
  · split at h
    · exact pm_v_jmp h hI (pm_tl hI.2.1)
    · split at h
      · exact pm_v_jmp h hI (pm_tl hI.2.1)
      · cases h
  · cases h
theorem pm_v_lsw {d : Int} {ps : Array (Int × Int)} (h : pm_lsw pc lo st g iv d ps = some (.inl S')) (hI : pm_Iv (pc, lo, st, g, iv)) : pm_Iv S' ∧ pm_le g S'.2.2.2.1 := by
  unfold pm_lsw at h
  split at h
  · obtain ⟨-, h⟩ := pm_ifn_inv h
    exact pm_v_jmp h hI (pm_tl hI.2.1)
  · cases h
theorem pm_v_gf {idx : Nat} (h : pm_gf mi pc lo st g iv idx = some (.inl S')) (hI : pm_Iv (pc, lo, st, g, iv)) : pm_Iv S' ∧ pm_le g S'.2.2.2.1 := by
  unfold pm_gf at h
  split at h
  · split at h
    · split at h
      · obtain ⟨h1, h⟩ := pm_ifn_inv h
        cases h
        refine pm_iv_go hI (pm_cns ?_ (pm_tl hI.2.1))
        split
        · exact pm_okX (Nat.le_add_right_of_le h1.1)
        · exact pm_okI
      · obtain ⟨h1, h⟩ := pm_ifn_inv h
        cases h
        refine pm_iv_go hI (pm_cns ?_ (pm_tl hI.2.1))
        unfold pm_ov
        split
        · exact pm_okF hI.1
        · exact pm_okI
    · cases h
  · cases h
theorem pm_okg_rw {a i t : Nat} (hg : pm_okg g) (ht : pm_okt g t) : pm_okg (g.1, pm_rw g.2.1 a i (some t), g.2.2) := by
  intro k sl q hq
  show pm_okt g q
  simp only [pm_rw] at hq
  split at hq
  · simp only [va_up] at hq
    split at hq
    · cases hq; exact ht
    · exact hg a sl q hq
  · exact hg k sl q hq
theorem pm_v_pf {idx : Nat} (h : pm_pf mi pc lo st g iv idx = some (.inl S')) (hI : pm_Iv (pc, lo, st, g, iv)) : pm_Iv S' ∧ pm_le g S'.2.2.2.1 := by
  unfold pm_pf at h
  split at h
  · split at h
    · obtain ⟨h1, h⟩ := pm_ifn_inv h
      split at h
      · obtain ⟨h2, h⟩ := pm_ifn_inv h
        cases h
        exact pm_iv_go hI (pm_tl (pm_tl hI.2.1))
      · obtain ⟨h2, h⟩ := pm_ifn_inv h
        cases h
        exact ⟨⟨pm_okg_rw hI.1 (hI.2.1 _ List.mem_cons_self _ rfl), pm_tl (pm_tl hI.2.1), hI.2.2⟩, ⟨fun _ _ => rfl, Nat.le_refl _, Nat.le_refl _⟩⟩
      · cases h
    · cases h
  · cases h
theorem pm_v_gs {idx : Nat} (h : pm_gs mi pc lo st g iv idx = some (.inl S')) (hI : pm_Iv (pc, lo, st, g, iv)) : pm_Iv S' ∧ pm_le g S'.2.2.2.1 := by
  unfold pm_gs at h
  split at h
  · cases h
    refine pm_iv_go hI (pm_cns ?_ hI.2.1)
    split
    · exact pm_okX (by omega)
    · split
      · exact pm_okI
      · exact pm_okA
  · cases h
theorem pm_v_aln (h : pm_aln X pc lo st g iv = some (.inl S')) (hI : pm_Iv (pc, lo, st, g, iv)) : pm_Iv S' ∧ pm_le g S'.2.2.2.1 := by
  unfold pm_aln at h
  split at h
  · split at h
    · obtain ⟨h1, h⟩ := pm_ifn_inv h
      cases h
      exact pm_iv_go hI (pm_cns pm_okI (pm_tl hI.2.1))
    · cases h
  · cases h
theorem pm_v_ald {b : Bool} (h : pm_ald X pc lo st g iv b = some (.inl S')) (hI : pm_Iv (pc, lo, st, g, iv)) : pm_Iv S' ∧ pm_le g S'.2.2.2.1 := by
  unfold pm_ald at h
  split at h
  · split at h
    · obtain ⟨h1, h⟩ := pm_ifn_inv h
      cases h
      exact pm_iv_go hI (pm_cns pm_okI (pm_tl (pm_tl hI.2.1)))
    · cases h
  · cases h
theorem pm_v_ast {b : Bool} (h : pm_ast pc lo st g iv b = some (.inl S')) (hI : pm_Iv (pc, lo, st, g, iv)) : pm_Iv S' ∧ pm_le g S'.2.2.2.1 := by
  unfold pm_ast at h
  split at h
  · split at h
    · obtain ⟨h1, h⟩ := pm_ifn_inv h
      cases h
      exact pm_iv_go hI (pm_tl (pm_tl (pm_tl hI.2.1)))
    · cases h
  · cases h
theorem pm_v_aal (h : pm_aal pc lo st g iv = some (.inl S')) (hI : pm_Iv (pc, lo, st, g, iv)) : pm_Iv S' ∧ pm_le g S'.2.2.2.1 := by
  unfold pm_aal at h
  split at h
  · split at h
    · obtain ⟨h1, h⟩ := pm_ifn_inv h
      cases h
      exact pm_iv_go hI (pm_cns (pm_okF hI.1) (pm_tl (pm_tl hI.2.1)))
    · cases h
  · cases h
theorem pm_v_aas (h : pm_aas pc lo st g iv = some (.inl S')) (hI : pm_Iv (pc, lo, st, g, iv)) : pm_Iv S' ∧ pm_le g S'.2.2.2.1 := by
  unfold pm_aas at h
  split at h
  · split at h
    · obtain ⟨h1, h⟩ := pm_ifn_inv h
      cases h
      exact ⟨⟨pm_okg_rw hI.1 (hI.2.1 _ List.mem_cons_self _ rfl), pm_tl (pm_tl (pm_tl hI.2.1)), hI.2.2⟩, ⟨fun _ _ => rfl, Nat.le_refl _, Nat.le_refl _⟩⟩
    · cases h
  · cases h
theorem pm_le_nc {q n k : Nat} (hn : g.1 g.2.2.1 = none) : pm_le g (pm_nc g q n k) := by
  refine ⟨fun j hj => ?_, Nat.le_succ _, Nat.le_add_right _ _⟩
  have hne : ¬ j = g.2.2.1 := fun (e : j = g.2.2.1) => hj (by rw [e]; exact hn)
  show (if j = g.2.2.1 then some (q, n) else g.1 j) = g.1 j
  rw [if_neg hne]
theorem pm_iv_nc {q n k : Nat} (hn : g.1 g.2.2.1 = none) (hI : pm_Iv (pc, lo, st, g, iv)) (hr : ∀ v ∈ r, pm_okv g v) : pm_Iv (pc', lo, .ref g.2.2.1 :: r, pm_nc g q n k, iv') ∧ pm_le g (pm_nc g q n k) := by
  have hl := pm_le_nc (q := q) (n := n) (k := k) hn
  refine ⟨⟨fun a sl t ht => ?_, pm_cns (pm_okR (Or.inl ?_)) (fun v hv => hl.okv (hr v hv)), fun v hv => hl.okv (hI.2.2 v hv)⟩, hl⟩
  · simp only [pm_nc] at ht
    split at ht
    · cases ht
    · exact hl.okt (hI.1 a sl t ht)
  · show (if _ = _ then _ else _) ≠ none
    rw [if_pos rfl]
    exact Option.some_ne_none _
theorem pm_v_new {idx : Nat} (h : pm_new mi pc lo st g iv idx = some (.inl S')) (hI : pm_Iv (pc, lo, st, g, iv)) : pm_Iv S' ∧ pm_le g S'.2.2.2.1 := by
  unfold pm_new at h
  split at h
  · obtain ⟨h1, h⟩ := pm_ifn_inv h
    cases h
    exact pm_iv_nc h1.1 hI hI.2.1
  · cases h
theorem pm_v_nwa {t : ArrayType} (h : pm_nwa pc lo st g iv t = some (.inl S')) (hI : pm_Iv (pc, lo, st, g, iv)) : pm_Iv S' ∧ pm_le g S'.2.2.2.1 := by
  unfold pm_nwa at h
  split at h
  · obtain ⟨h1, h⟩ := pm_ifn_inv h
    cases h
    exact pm_iv_nc h1.1 hI (pm_tl hI.2.1)
  · cases h
theorem pm_v_ana {idx : Nat} (h : pm_ana mi pc lo st g iv idx = some (.inl S')) (hI : pm_Iv (pc, lo, st, g, iv)) : pm_Iv S' ∧ pm_le g S'.2.2.2.1 := by
  unfold pm_ana at h
  split at h
  · split at h
    · obtain ⟨h1, h⟩ := pm_ifn_inv h
      cases h
      exact pm_iv_nc h1.2.1 hI (pm_tl hI.2.1)
    · cases h
  · cases h
theorem pm_v_kI {n idx : Nat} (h : pm_kI mi pc lo st g iv n idx = some (.inl S')) (hI : pm_Iv (pc, lo, st, g, iv)) : pm_Iv S' ∧ pm_le g S'.2.2.2.1 := by
  unfold pm_kI at h
  split at h
  · cases h
    exact pm_iv_go hI (pm_cns pm_okI hI.2.1)
  · cases h
theorem pm_v_kL {idx : Nat} (h : pm_kL mi pc lo st g iv idx = some (.inl S')) (hI : pm_Iv (pc, lo, st, g, iv)) : pm_Iv S' ∧ pm_le g S'.2.2.2.1 := by
  unfold pm_kL at h
  split at h
  · cases h
    exact pm_iv_go hI (pm_cns pm_okL hI.2.1)
  · cases h
theorem pm_v_kS {idx : Nat} (h : pm_kS mi pc lo st g iv idx = some (.inl S')) (hI : pm_Iv (pc, lo, st, g, iv)) : pm_Iv S' ∧ pm_le g S'.2.2.2.1 := by
  unfold pm_kS at h
  split at h
  · cases h
    exact pm_iv_go hI (pm_cns (pm_okX (by omega)) hI.2.1)
  · cases h
/-- what a call keeps -/
def pm_CK (cal : pm_C) : Prop := ∀ (t : Nat) (args : List Value) (g : pm_G) (iv : pm_V) (v : Option Value) (g' : pm_G) (iv' : pm_V), cal t args g iv = some (v, g', iv') → pm_okg g → (∀ w ∈ args, pm_okv g w) → pm_okg g' ∧ pm_le g g' ∧ ∀ w, v = some w → (∃ x, w = .int x) ∨ ∃ x, w = .long x
theorem pm_v_bk {t : Nat} {as : List Value} (hc : pm_CK cal) (h : pm_bk pc lo r (cal t as g iv) = some (.inl S')) (hI : pm_Iv (pc, lo, st, g, iv)) (ha : ∀ w ∈ as, pm_okv g w) (hr : ∀ w ∈ r, pm_okv g w) : pm_Iv S' ∧ pm_le g S'.2.2.2.1 := by
  unfold pm_bk at h
  split at h
  · rename_i v g1 iv1 he
    cases h
    obtain ⟨h1, h2, h3⟩ := hc _ _ _ _ _ _ _ he hI.1 ha
    refine ⟨⟨h1, fun w hw => ?_, fun w hw => h2.okv (hI.2.2 w hw)⟩, h2⟩
    rcases List.mem_append.mp hw with q | q
    · cases v with
      | none => cases q
      | some z =>
        simp only [Option.toList, List.mem_singleton] at q
        subst q
        rcases h3 _ rfl with ⟨x, rfl⟩ | ⟨x, rfl⟩
        · exact pm_okI
        · exact pm_okL
    · exact h2.okv (hr w q)
  · cases h
theorem pm_drop {n : Nat} (h : ∀ w ∈ st, pm_okv g w) : ∀ w ∈ st.drop n, pm_okv g w := fun w hw => h w (List.mem_of_mem_drop hw)
theorem pm_take {n : Nat} (h : ∀ w ∈ st, pm_okv g w) : ∀ w ∈ (st.take n).reverse, pm_okv g w := fun w hw => h w (List.mem_of_mem_take (List.mem_reverse.mp hw))
theorem pm_v_inv {idx : Nat} (hc : pm_CK cal) (h : pm_inv cal mi pc lo st g iv idx = some (.inl S')) (hI : pm_Iv (pc, lo, st, g, iv)) : pm_Iv S' ∧ pm_le g S'.2.2.2.1 := by
  unfold pm_inv at h
  split at h
  · rename_i t n p hl
    have hd := pm_drop (n := n) hI.2.1
    split at h
    · rename_i b r he
      obtain ⟨h1, h⟩ := pm_ifn_inv h
      rw [he] at hd
      exact pm_v_bk hc h hI (pm_cns (hd _ List.mem_cons_self) (pm_take hI.2.1)) (pm_tl hd)
    · cases h
  · cases h
theorem pm_v_isp {idx : Nat} (hc : pm_CK cal) (h : pm_isp cal mi pc lo st g iv idx = some (.inl S')) (hI : pm_Iv (pc, lo, st, g, iv)) : pm_Iv S' ∧ pm_le g S'.2.2.2.1 := by
  unfold pm_isp at h
  split at h
  · rename_i t n p hl
    have hd := pm_drop (n := n) hI.2.1
    split at h
    · rename_i b r he
      obtain ⟨h1, h⟩ := pm_ifn_inv h
      rw [he] at hd
      exact pm_v_bk hc h hI (pm_cns (hd _ List.mem_cons_self) (pm_take hI.2.1)) (pm_tl hd)
    · cases h
  · rename_i t n p hl
    have hd := pm_drop (n := n) hI.2.1
    split at h
    · rename_i b r he
      obtain ⟨h1, h⟩ := pm_ifn_inv h
      rw [he] at hd
      exact pm_v_bk hc h hI (pm_cns (hd _ List.mem_cons_self) (pm_take hI.2.1)) (pm_tl hd)
    · cases h
  · split at h
    · obtain ⟨h1, h⟩ := pm_ifn_inv h
      cases h
      exact pm_iv_go hI (pm_tl hI.2.1)
    · cases h
  · cases h
theorem pm_v_ins {idx : Nat} (hc : pm_CK cal) (h : pm_ins cal mi pc lo st g iv idx = some (.inl S')) (hI : pm_Iv (pc, lo, st, g, iv)) : pm_Iv S' ∧ pm_le g S'.2.2.2.1 := by
  unfold pm_ins at h
  split at h
  · obtain ⟨h1, h⟩ := pm_ifn_inv h
    exact pm_v_bk hc h hI (pm_take hI.2.1) (pm_drop hI.2.1)
  · obtain ⟨h1, h⟩ := pm_ifn_inv h
    exact pm_v_bk hc h hI (pm_take hI.2.1) (pm_drop hI.2.1)
  · split at h
    · split at h
      · obtain ⟨h1, h⟩ := pm_ifn_inv h
        cases h
        exact pm_iv_go hI (pm_tl (pm_tl (pm_tl (pm_tl (pm_tl hI.2.1)))))
      · cases h
    · cases h
  · split at h
    · obtain ⟨h1, h⟩ := pm_ifn_inv h
      cases h
      exact pm_iv_go hI (pm_cns pm_okI (pm_tl (pm_tl hI.2.1)))
    · cases h
  · split at h
    · obtain ⟨h1, h⟩ := pm_ifn_inv h
      cases h
      exact pm_iv_go hI (pm_cns pm_okI (pm_tl hI.2.1))
    · cases h
  · cases h
theorem pm_ri_no (h : pm_ri mi st g iv = some (.inl S')) : False := by
  unfold pm_ri at h
  split at h
  · split at h
    · have := (pm_ifn_inv h).2
      cases this
    · cases h
  · cases h
theorem pm_rl_no (h : pm_rl mi st g iv = some (.inl S')) : False := by
  unfold pm_rl at h
  split at h
  · have := (pm_ifn_inv h).2
    cases this
  · cases h
theorem pm_rv_no (h : pm_rv mi st g iv = some (.inl S')) : False := by
  unfold pm_rv at h
  split at h
  · have := (pm_ifn_inv h).2
    cases this
  · cases h
theorem pm_v_i {ins : Instr} (hc : pm_CK cal) (h : pm_i X cal mi pc lo st g iv ins = some (.inl S')) (hI : pm_Iv (pc, lo, st, g, iv)) : pm_Iv S' ∧ pm_le g S'.2.2.2.1 := by
  unfold pm_i at h
  split at h
  any_goals first
    | exact pm_v_psh pm_okI h hI
    | exact pm_v_psh pm_okL h hI
    | exact pm_v_ldI h hI
    | exact pm_v_ldL h hI
    | exact pm_v_ldA h hI
    | exact pm_v_stI h hI
    | exact pm_v_stL h hI
    | exact pm_v_stA h hI
    | exact pm_v_inc h hI
    | exact pm_v_i1 h hI
    | exact pm_v_i2 h hI
    | exact pm_v_d2 h hI
    | exact pm_v_l2 h hI
    | exact pm_v_ls2 h hI
    | exact pm_v_il h hI
    | exact pm_v_li h hI
    | exact pm_v_lc h hI
    | exact pm_v_dup h hI
    | exact pm_v_dp2 h hI
    | exact pm_v_pop h hI
    | exact pm_v_jmp h hI hI.2.1
    | exact pm_v_br1 h hI
    | exact pm_v_br2 h hI
    | exact pm_v_nn h hI
    | exact pm_v_tsw h hI
    | exact pm_v_lsw h hI
    | exact pm_v_gf h hI
    | exact pm_v_pf h hI
    | exact pm_v_gs h hI
    | exact pm_v_aln h hI
    | exact pm_v_ald h hI
    | exact pm_v_ast h hI
    | exact pm_v_aal h hI
    | exact pm_v_aas h hI
    | exact pm_v_new h hI
    | exact pm_v_nwa h hI
    | exact pm_v_ana h hI
    | exact pm_v_kI h hI
    | exact pm_v_kL h hI
    | exact pm_v_inv hc h hI
    | exact pm_v_ins hc h hI
    | exact pm_v_isp hc h hI
    | exact (pm_ri_no h).elim
    | exact (pm_rl_no h).elim
    | exact (pm_rv_no h).elim
    | (cases h; done)
    | (split at h <;> first | exact pm_v_kI h hI | exact pm_v_kS h hI)
theorem pm_v_n {S : pm_S} (hc : pm_CK cal) (h : pm_n X cal mi S = some (.inl S')) (hI : pm_Iv S) : pm_Iv S' ∧ pm_le S.2.2.2.1 S'.2.2.2.1 := by
  unfold pm_n at h
  split at h
  · split at h
    · exact pm_v_i hc h hI
    · cases h
  · cases h
/-- this isn't an end -/
def pm_Lv (x : pm_O) : Prop := ∀ r : pm_R, x ≠ some (.inr r)
theorem pm_r_no : pm_Lv none := fun r h => by cases h
theorem pm_r_go {st : List Value} : pm_Lv (pm_go pc lo st g iv) := fun r h => by cases h
theorem pm_r_if {c : Prop} [Decidable c] {x : pm_O} (h : pm_Lv x) : pm_Lv (pm_ifn c x) := fun r q => h r (pm_ifn_inv q).2
theorem pm_r_jmp {off : Int} : pm_Lv (pm_jmp pc lo g iv off r) := pm_r_if pm_r_go
theorem pm_r_bk {q : Option pm_R} : pm_Lv (pm_bk pc lo r q) := by
  unfold pm_bk
  split
  · exact pm_r_go
  · exact pm_r_no
theorem pm_r_i {ins : Instr} (h1 : ins ≠ .ireturn) (h2 : ins ≠ .lreturn) (h3 : ins ≠ .return_) : pm_Lv (pm_i X cal mi pc lo st g iv ins) := by
  unfold pm_i
  split
  any_goals first
    | exact pm_r_no
    | exact pm_r_jmp
    | exact absurd rfl h1
    | exact absurd rfl h2
    | exact absurd rfl h3
    | exact pm_r_go
    | (unfold pm_ldI; repeat' (first | exact pm_r_go | exact pm_r_no | exact pm_r_jmp | exact pm_r_bk | apply pm_r_if | split))
    | (unfold pm_ldL; repeat' (first | exact pm_r_go | exact pm_r_no | exact pm_r_jmp | exact pm_r_bk | apply pm_r_if | split))
    | (unfold pm_ldA; repeat' (first | exact pm_r_go | exact pm_r_no | exact pm_r_jmp | exact pm_r_bk | apply pm_r_if | split))
    | (unfold pm_stI; repeat' (first | exact pm_r_go | exact pm_r_no | exact pm_r_jmp | exact pm_r_bk | apply pm_r_if | split))
    | (unfold pm_stL; repeat' (first | exact pm_r_go | exact pm_r_no | exact pm_r_jmp | exact pm_r_bk | apply pm_r_if | split))
    | (unfold pm_stA; repeat' (first | exact pm_r_go | exact pm_r_no | exact pm_r_jmp | exact pm_r_bk | apply pm_r_if | split))
    | (unfold pm_inc; repeat' (first | exact pm_r_go | exact pm_r_no | exact pm_r_jmp | exact pm_r_bk | apply pm_r_if | split))
    | (unfold pm_i1; repeat' (first | exact pm_r_go | exact pm_r_no | exact pm_r_jmp | exact pm_r_bk | apply pm_r_if | split))
    | (unfold pm_i2; repeat' (first | exact pm_r_go | exact pm_r_no | exact pm_r_jmp | exact pm_r_bk | apply pm_r_if | split))
    | (unfold pm_d2; repeat' (first | exact pm_r_go | exact pm_r_no | exact pm_r_jmp | exact pm_r_bk | apply pm_r_if | split))
    | (unfold pm_l2; repeat' (first | exact pm_r_go | exact pm_r_no | exact pm_r_jmp | exact pm_r_bk | apply pm_r_if | split))
    | (unfold pm_ls2; repeat' (first | exact pm_r_go | exact pm_r_no | exact pm_r_jmp | exact pm_r_bk | apply pm_r_if | split))
    | (unfold pm_il; repeat' (first | exact pm_r_go | exact pm_r_no | exact pm_r_jmp | exact pm_r_bk | apply pm_r_if | split))
    | (unfold pm_li; repeat' (first | exact pm_r_go | exact pm_r_no | exact pm_r_jmp | exact pm_r_bk | apply pm_r_if | split))
    | (unfold pm_lc; repeat' (first | exact pm_r_go | exact pm_r_no | exact pm_r_jmp | exact pm_r_bk | apply pm_r_if | split))
    | (unfold pm_dup; repeat' (first | exact pm_r_go | exact pm_r_no | exact pm_r_jmp | exact pm_r_bk | apply pm_r_if | split))
    | (unfold pm_dp2; repeat' (first | exact pm_r_go | exact pm_r_no | exact pm_r_jmp | exact pm_r_bk | apply pm_r_if | split))
    | (unfold pm_pop; repeat' (first | exact pm_r_go | exact pm_r_no | exact pm_r_jmp | exact pm_r_bk | apply pm_r_if | split))
    | (unfold pm_br1; repeat' (first | exact pm_r_go | exact pm_r_no | exact pm_r_jmp | exact pm_r_bk | apply pm_r_if | split))
    | (unfold pm_br2; repeat' (first | exact pm_r_go | exact pm_r_no | exact pm_r_jmp | exact pm_r_bk | apply pm_r_if | split))
    | (unfold pm_nn; repeat' (first | exact pm_r_go | exact pm_r_no | exact pm_r_jmp | exact pm_r_bk | apply pm_r_if | split))
    | (unfold pm_tsw; repeat' (first | exact pm_r_go | exact pm_r_no | exact pm_r_jmp | exact pm_r_bk | apply pm_r_if | split))
    | (unfold pm_lsw; repeat' (first | exact pm_r_go | exact pm_r_no | exact pm_r_jmp | exact pm_r_bk | apply pm_r_if | split))
    | (unfold pm_gf; repeat' (first | exact pm_r_go | exact pm_r_no | exact pm_r_jmp | exact pm_r_bk | apply pm_r_if | split))
    | (unfold pm_pf; repeat' (first | exact pm_r_go | exact pm_r_no | exact pm_r_jmp | exact pm_r_bk | apply pm_r_if | split))
    | (unfold pm_gs; repeat' (first | exact pm_r_go | exact pm_r_no | exact pm_r_jmp | exact pm_r_bk | apply pm_r_if | split))
    | (unfold pm_aln; repeat' (first | exact pm_r_go | exact pm_r_no | exact pm_r_jmp | exact pm_r_bk | apply pm_r_if | split))
    | (unfold pm_ald; repeat' (first | exact pm_r_go | exact pm_r_no | exact pm_r_jmp | exact pm_r_bk | apply pm_r_if | split))
    | (unfold pm_ast; repeat' (first | exact pm_r_go | exact pm_r_no | exact pm_r_jmp | exact pm_r_bk | apply pm_r_if | split))
    | (unfold pm_aal; repeat' (first | exact pm_r_go | exact pm_r_no | exact pm_r_jmp | exact pm_r_bk | apply pm_r_if | split))
    | (unfold pm_aas; repeat' (first | exact pm_r_go | exact pm_r_no | exact pm_r_jmp | exact pm_r_bk | apply pm_r_if | split))
    | (unfold pm_new; repeat' (first | exact pm_r_go | exact pm_r_no | exact pm_r_jmp | exact pm_r_bk | apply pm_r_if | split))
    | (unfold pm_nwa; repeat' (first | exact pm_r_go | exact pm_r_no | exact pm_r_jmp | exact pm_r_bk | apply pm_r_if | split))
    | (unfold pm_ana; repeat' (first | exact pm_r_go | exact pm_r_no | exact pm_r_jmp | exact pm_r_bk | apply pm_r_if | split))
    | (unfold pm_kI; repeat' (first | exact pm_r_go | exact pm_r_no | exact pm_r_jmp | exact pm_r_bk | apply pm_r_if | split))
    | (unfold pm_kL; repeat' (first | exact pm_r_go | exact pm_r_no | exact pm_r_jmp | exact pm_r_bk | apply pm_r_if | split))
    | (unfold pm_kS; repeat' (first | exact pm_r_go | exact pm_r_no | exact pm_r_jmp | exact pm_r_bk | apply pm_r_if | split))
    | (unfold pm_inv; repeat' (first | exact pm_r_go | exact pm_r_no | exact pm_r_jmp | exact pm_r_bk | apply pm_r_if | split))
    | (unfold pm_ins; repeat' (first | exact pm_r_go | exact pm_r_no | exact pm_r_jmp | exact pm_r_bk | apply pm_r_if | split))
    | (unfold pm_isp; repeat' (first | exact pm_r_go | exact pm_r_no | exact pm_r_jmp | exact pm_r_bk | apply pm_r_if | split))
  · unfold pm_kS
    split
    · exact pm_r_go
    · exact pm_r_no
/-- how a run ends -/
theorem pm_n_end {S : pm_S} {r : pm_R} (h : pm_n X cal mi S = some (.inr r)) : (∃ x, S.2.2.1 = [.int x] ∧ (∃ ty, pm_mr mi = some ty ∧ narrow ty (.int x) = .int x) ∧ r = (some (.int x), S.2.2.2.1, S.2.2.2.2) ∧ decode (pm_mb mi) S.1 = .ok (.ireturn, 1)) ∨
    (∃ x, S.2.2.1 = [.long x] ∧ pm_mr mi = some .long ∧ r = (some (.long x), S.2.2.2.1, S.2.2.2.2) ∧ decode (pm_mb mi) S.1 = .ok (.lreturn, 1)) ∨ (S.2.2.1 = [] ∧ pm_mr mi = none ∧ r = (none, S.2.2.2.1, S.2.2.2.2) ∧ decode (pm_mb mi) S.1 = .ok (.return_, 1)) := by
  unfold pm_n at h
  split at h
  · rename_i ins len hd
    split at h
    · rename_i hl
      by_cases h1 : ins = .ireturn
      · subst h1
        obtain rfl : 1 = len := by rcases hl with hl | hl <;> cases hl; rfl
        refine Or.inl ?_
        change pm_ri mi S.2.2.1 S.2.2.2.1 S.2.2.2.2 = some (.inr r) at h
        unfold pm_ri at h
        split at h
        · rename_i v hv
          split at h
          · rename_i ty ht
            obtain ⟨q1, q2⟩ := pm_ifn_inv h
            cases q2
            exact ⟨v, hv, ⟨ty, ht, q1⟩, rfl, hd⟩
          · cases h
        · cases h
      · by_cases h2 : ins = .lreturn
        · subst h2
          obtain rfl : 1 = len := by rcases hl with hl | hl <;> cases hl; rfl
          refine Or.inr (Or.inl ?_)
          change pm_rl mi S.2.2.1 S.2.2.2.1 S.2.2.2.2 = some (.inr r) at h
          unfold pm_rl at h
          split at h
          · rename_i v hv
            obtain ⟨q1, q2⟩ := pm_ifn_inv h
            cases q2
            exact ⟨v, hv, q1, rfl, hd⟩
          · cases h
        · by_cases h3 : ins = .return_
          · subst h3
            obtain rfl : 1 = len := by rcases hl with hl | hl <;> cases hl; rfl
            refine Or.inr (Or.inr ?_)
            change pm_rv mi S.2.2.1 S.2.2.2.1 S.2.2.2.2 = some (.inr r) at h
            unfold pm_rv at h
            split at h
            · rename_i hv
              obtain ⟨q1, q2⟩ := pm_ifn_inv h
              cases q2
              exact ⟨hv, q1, rfl, hd⟩
            · cases h
          · exact absurd h (pm_r_i h1 h2 h3 r)
    · cases h
  · cases h
theorem pm_v_x : ∀ {n : Nat} {S : pm_S} {r : pm_R}, pm_CK cal → pm_x X cal mi n S = some r → pm_Iv S → pm_okg r.2.1 ∧ pm_le S.2.2.2.1 r.2.1 ∧ ∀ w, r.1 = some w → (∃ x, w = .int x) ∨ ∃ x, w = .long x := by
  intro n
  induction n with
  | zero => intro S r _ h; cases h
  | succ n ih =>
    intro S r hc h hI
    simp only [pm_x] at h
    split at h
    · cases h
    · rename_i S1 he
      obtain ⟨h1, h2⟩ := pm_v_n hc he hI
      obtain ⟨a, b, c⟩ := ih hc h h1
      exact ⟨a, h2.tr b, c⟩
    · rename_i r1 he
      cases h
      rcases pm_n_end he with ⟨x, h1, -, rfl, -⟩ | ⟨x, h1, -, rfl, -⟩ | ⟨h1, -, rfl, -⟩
      · exact ⟨hI.1, pm_le.rf, fun w hw => by cases hw; exact Or.inl ⟨_, rfl⟩⟩
      · exact ⟨hI.1, pm_le.rf, fun w hw => by cases hw; exact Or.inr ⟨_, rfl⟩⟩
      · exact ⟨hI.1, pm_le.rf, fun w hw => by cases hw⟩
theorem pm_iv_en {args : List Value} {n : Nat} (hg : pm_okg g) (ha : ∀ w ∈ args, pm_okv g w) : pm_Iv (0, pm_en args n, [], g, iv) := by
  have key : ∀ (as : List Value) (v : Value), some v ∈ pm_ea as → v ∈ as := by
    intro as
    induction as with
    | nil => intro v h; cases h
    | cons a t ih =>
      intro v h
      rw [pm_ea] at h
      split at h
      · rcases List.mem_cons.mp h with q | q
        · cases q; exact List.mem_cons_self
        · rcases List.mem_cons.mp q with q | q
          · cases q
          · exact List.mem_cons_of_mem _ (ih v q)
      · rcases List.mem_cons.mp h with q | q
        · cases q; exact List.mem_cons_self
        · exact List.mem_cons_of_mem _ (ih v q)
  refine ⟨hg, (fun v hv => absurd hv List.not_mem_nil), ?_⟩
  intro v hv
  rcases List.mem_append.mp hv with q | q
  · exact ha v (key args v q)
  · exact absurd (List.eq_of_mem_replicate q) (Option.some_ne_none _)
theorem pm_c_ck : ∀ d : Nat, pm_CK (pm_c X d) := by
  intro d
  induction d with
  | zero => intro t args g iv v g' iv' h; cases h
  | succ d ih =>
    intro t args g iv v g' iv' h hg ha
    by_cases hl : (pm_ea args).length ≤ pm_ml t
    · rw [pm_c_at hl] at h
      obtain ⟨n, hn⟩ := pm_at_ex h
      exact pm_v_x ih hn (pm_iv_en hg ha)
    · exact absurd h (by show (if (pm_ea args).length ≤ pm_ml t then _ else none) ≠ _; rw [if_neg hl]; exact fun e => by cases e)
end INV
end
section
/-! SOUNDNESS of the small machine: instructions that touch cells -/
section HP
variable {X : pm_X} {cal : pm_C} {qv : Value} {D : va_G} {A : Nat → Prop} {adI : Nat → Nat} {gI : pm_G} {mi : Nat} {p : Program} {l : Launch} {e : Env} {R : Room} {s : State} {m : MethodId} {args : Array Value} {below : List Frame} {meth : Method} {c : Code} {Q : State → Prop} {S' : pm_S} {pc : Nat} {lo : List (Option Value)} {st : List Value} {g : pm_G} {iv : pm_V}
theorem pm_Env.adC {ad : Nat → Nat} (hC : pm_Cx X qv D A adI mi p R s m args meth c) (hag : ∀ k, gI.1 k ≠ none ∨ 1000 ≤ k → ad k = adI k) : pm_Env X qv ad A s s.heap := (hC.2.2.2.2.2.2.2.1).ad (fun k hk => hag k (Or.inr hk))
theorem pm_cv_ov {ad : Nat → Nat} {ci a sl : Nat} : pm_cv ad .null (pm_ov g iv ci a sl) = pm_cv ad qv (pm_ov g iv ci a sl) := by
  unfold pm_ov
  split
  · cases g.2.1 a sl <;> rfl
  · rfl
theorem pm_map_get {α : Type} {f : Nat → α} {n k : Nat} (h : k < n) : ((List.range n).map f)[k]? = some (f k) := by
  rw [List.getElem?_map, List.getElem?_range h]
  rfl
theorem pm_map_set {α : Type} {f f' : Nat → α} {n k : Nat} (h : k < n) (ho : ∀ j, j ≠ k → f' j = f j) : ((List.range n).map f).set k (f' k) = (List.range n).map f' := by
  apply List.ext_getElem?
  intro i
  by_cases hik : i = k
  · subst hik
    rw [List.getElem?_set_self (by simpa using h), pm_map_get h]
  · rw [List.getElem?_set_ne (Ne.symm hik), List.getElem?_map, List.getElem?_map]
    cases hi : (List.range n)[i]? with
    | none => rfl
    | some q =>
      have : q = i := by
        have := (List.getElem?_eq_some_iff.mp hi).2
        simpa using this.symm
      subst this
      show some (f q) = some (f' q)
      rw [ho q hik]
theorem pm_ee_o {ad : Nat → Nat} {ca : Nat → ClassId} {a ci n : Nat} (hk : g.1 a = some (ci, n)) (hc : ci < 8) : pm_ee ad ca g iv a = .inr (ci, (List.range (pm_nf ci)).map fun sl => pm_cv ad .null (pm_ov g iv ci a sl)) := by
  unfold pm_ee
  rw [hk]
  show (if ci < 8 then _ else _) = _
  rw [if_pos hc]
theorem pm_ee_i {ad : Nat → Nat} {ca : Nat → ClassId} {a q n : Nat} (hk : g.1 a = some (q, n)) (hc : q = 8 ∨ q = 9 ∨ q = 10) : pm_ee ad ca g iv a = .inl (ca a, n, .inl (iv a)) := by
  unfold pm_ee
  rw [hk]
  show (if q < 8 then _ else if q = 11 then _ else _) = _
  rw [if_neg (by omega), if_neg (by omega)]
theorem pm_ee_r {ad : Nat → Nat} {ca : Nat → ClassId} {a n : Nat} (hk : g.1 a = some (11, n)) : pm_ee ad ca g iv a = .inl (ca a, n, .inr (.inr (.inr (.inr fun i => (g.2.1 a i).map ad)))) := by
  unfold pm_ee
  rw [hk]
  rfl
/-- an array's class -/
theorem pm_Wd.K {ad : Nat → Nat} {ca : Nat → ClassId} {L : List Nat} {H : Heap} (h : pm_Wd D A ad ca L g iv s H) (hK : va_K D pm_cl [] s) {a q n : Nat} (hk : g.1 a = some (q, n)) (hq : 8 ≤ q) : va_K D pm_cl [(ca a, pm_ty q)] s := by
  refine ⟨hK.1, fun k x hx => ?_⟩
  cases k with
  | zero => cases hx; exact (h.2.2.2.2.2 a q n hk hq).2
  | succ k => simp at hx
/-- a cell is written -/
theorem pm_Wd.upd {ad : Nat → Nat} {ca : Nat → ClassId} {L : List Nat} {H H1 : Heap} {g' : pm_G} {iv' : pm_V} (h : pm_Wd D A ad ca L g iv s H) (hg : g'.1 = g.1) {j a : Nat} {x : va_E} (hj : L[j]? = some a) (hx : x = pm_ee ad ca g' iv' a) (ho : ∀ q ∈ L, q ≠ a → pm_ee ad ca g' iv' q = pm_ee ad ca g iv q)
    (hP : va_P D pm_cl ((L.map (pm_e ad ca g iv)).set j (ad a, x)) H1) (hD : va_D A ((L.map (pm_e ad ca g iv)).set j (ad a, x))) : pm_Wd D A ad ca L g' iv' s H1 := by
  subst hx
  rw [pm_set h.2.1 hj ho] at hP hD
  exact ⟨by rw [hg]; exact h.1, h.2.1, h.2.2.1, hP, hD, by rw [hg]; exact h.2.2.2.2.2⟩
theorem pm_g_nn {off : Int} (hC : pm_Cx X qv D A adI mi p R s m args meth c) (hd : decode (pm_mb mi) pc = .ok (.ifnonnull off, 3)) (h : pm_nn pc lo st g iv off = some (.inl S')) (k : pm_Go qv D A adI gI mi p l e R s m args below meth c Q S') : pm_Go qv D A adI gI mi p l e R s m args below meth c Q (pc, lo, st, g, iv) := by
  unfold pm_nn at h
  split at h
  · obtain ⟨t, ht, rfl⟩ := pm_jmp_inv h
    intro ad ca L H locs cells slots ls hag hpe hls hW hS hc hs
    exact lv_ifnonnull hC.1 hC.2.1 hd ht (k ad ca L H locs cells slots ls hag hpe hls hW hS hc hs)
  · cases h
    intro ad ca L H locs cells slots ls hag hpe hls hW hS hc hs
    exact lv_ifnonnullN hC.1 hC.2.1 hd (k ad ca L H locs cells slots ls hag hpe hls hW hS hc hs)
  · cases h
theorem pm_g_tsw {d lw up : Int} {os : Array Int} {len : Nat} (hC : pm_Cx X qv D A adI mi p R s m args meth c) (hd : decode (pm_mb mi) pc = .ok (.tableswitch d lw up os, len)) (h : pm_tsw pc lo st g iv d lw up os = some (.inl S')) (k : pm_Go qv D A adI gI mi p l e R s m args below meth c Q S') : pm_Go qv D A adI gI mi p l e R s m args below meth c Q (pc, lo, st, g, iv) := by
  unfold pm_tsw at h
  split at h
  · split at h
    · rename_i hx
      obtain ⟨t, ht, rfl⟩ := pm_jmp_inv h
      intro ad ca L H locs cells slots ls hag hpe hls hW hS hc hs
      exact lv_tableOut hC.1 hC.2.1 hd hx ht (k ad ca L H locs cells slots ls hag hpe hls hW hS hc hs)
    · rename_i hx
      split at h
      · rename_i o ho
        obtain ⟨t, ht, rfl⟩ := pm_jmp_inv h
        intro ad ca L H locs cells slots ls hag hpe hls hW hS hc hs
        exact lv_tableIn hC.1 hC.2.1 hd (fun q => hx (Or.inl q)) (fun q => hx (Or.inr q)) ho ht (k ad ca L H locs cells slots ls hag hpe hls hW hS hc hs)
      · cases h
  · cases h
theorem pm_g_lsw {d : Int} {ps : Array (Int × Int)} {len : Nat} (hC : pm_Cx X qv D A adI mi p R s m args meth c) (hd : decode (pm_mb mi) pc = .ok (.lookupswitch d ps, len)) (h : pm_lsw pc lo st g iv d ps = some (.inl S')) (k : pm_Go qv D A adI gI mi p l e R s m args below meth c Q S') : pm_Go qv D A adI gI mi p l e R s m args below meth c Q (pc, lo, st, g, iv) := by
  unfold pm_lsw at h
  split at h
  · obtain ⟨hp, h⟩ := pm_ifn_inv h
    obtain ⟨t, ht, rfl⟩ := pm_jmp_inv h
    intro ad ca L H locs cells slots ls hag hpe hls hW hS hc hs
    exact lv_lookup hC.1 hC.2.1 hd hp rfl ht (k ad ca L H locs cells slots ls hag hpe hls hW hS hc hs)
  · cases h
theorem pm_g_kI2 {idx : Nat} (hC : pm_Cx X qv D A adI mi p R s m args meth c) (hd : decode (pm_mb mi) pc = .ok (.ldc idx, 2)) (h : pm_kI mi pc lo st g iv 2 idx = some (.inl S')) (k : pm_Go qv D A adI gI mi p l e R s m args below meth c Q S') : pm_Go qv D A adI gI mi p l e R s m args below meth c Q (pc, lo, st, g, iv) := by
  unfold pm_kI at h
  split at h
  · rename_i v z hl
    cases h
    intro ad ca L H locs cells slots ls hag hpe hls hW hS hc hs
    exact lv_ldc hC.1 hC.2.1 hC.2.2.2.1 (hC.2.2.2.2.1 _ (pm_lk_w hl)) hd (k ad ca L H locs cells slots ls hag hpe hls hW hS hc hs)
  · cases h
theorem pm_g_kI3 {idx : Nat} (hC : pm_Cx X qv D A adI mi p R s m args meth c) (hd : decode (pm_mb mi) pc = .ok (.ldc_w idx, 3)) (h : pm_kI mi pc lo st g iv 3 idx = some (.inl S')) (k : pm_Go qv D A adI gI mi p l e R s m args below meth c Q S') : pm_Go qv D A adI gI mi p l e R s m args below meth c Q (pc, lo, st, g, iv) := by
  unfold pm_kI at h
  split at h
  · rename_i v z hl
    cases h
    intro ad ca L H locs cells slots ls hag hpe hls hW hS hc hs
    exact lv_ldcw hC.1 hC.2.1 hC.2.2.2.1 (hC.2.2.2.2.1 _ (pm_lk_w hl)) hd (k ad ca L H locs cells slots ls hag hpe hls hW hS hc hs)
  · cases h
theorem pm_g_kL {idx : Nat} (hC : pm_Cx X qv D A adI mi p R s m args meth c) (hd : decode (pm_mb mi) pc = .ok (.ldc2_w idx, 3)) (h : pm_kL mi pc lo st g iv idx = some (.inl S')) (k : pm_Go qv D A adI gI mi p l e R s m args below meth c Q S') : pm_Go qv D A adI gI mi p l e R s m args below meth c Q (pc, lo, st, g, iv) := by
  unfold pm_kL at h
  split at h
  · rename_i v z hl
    cases h
    intro ad ca L H locs cells slots ls hag hpe hls hW hS hc hs
    exact lv_ldc2 hC.1 hC.2.1 hC.2.2.2.1 (hC.2.2.2.2.1 _ (pm_ll_w hl)) hd (k ad ca L H locs cells slots ls hag hpe hls hW hS hc hs)
  · cases h
theorem pm_g_kS {idx : Nat} (hC : pm_Cx X qv D A adI mi p R s m args meth c) (hd : decode (pm_mb mi) pc = .ok (.ldc idx, 2)) (h : pm_kS mi pc lo st g iv idx = some (.inl S')) (k : pm_Go qv D A adI gI mi p l e R s m args below meth c Q S') : pm_Go qv D A adI gI mi p l e R s m args below meth c Q (pc, lo, st, g, iv) := by
  unfold pm_kS at h
  split at h
  · rename_i i hl
    cases h
    intro ad ca L H locs cells slots ls hag hpe hls hW hS hc hs
    obtain ⟨h4, t, ht, he⟩ := pm_lt_w hl
    have hZ := (pm_Env.adC hC hag).2.1 i t ht
    have h4 : pm_mc mi = 4 := h4
    have he : t.1 = idx := he
    rw [he] at hZ
    exact va_ldcS (own := "HillHouses$Tape") hC.1 hC.2.1 (by have := hC.2.2.2.1; rw [h4] at this; exact this) hZ hd (k ad ca L H locs cells slots ls hag hpe hls hW hS hc hs)
  · cases h
theorem pm_g_gs {idx : Nat} (hC : pm_Cx X qv D A adI mi p R s m args meth c) (hd : decode (pm_mb mi) pc = .ok (.getstatic idx, 3)) (h : pm_gs mi pc lo st g iv idx = some (.inl S')) (k : pm_Go qv D A adI gI mi p l e R s m args below meth c Q S') : pm_Go qv D A adI gI mi p l e R s m args below meth c Q (pc, lo, st, g, iv) := by
  unfold pm_gs at h
  split at h
  · rename_i j z hl
    cases h
    intro ad ca L H locs cells slots ls hag hpe hls hW hS hc hs
    obtain ⟨hj, hw⟩ := pm_ls_w hl
    have hE := pm_Env.adC hC hag
    have kk := k ad ca L H locs cells slots ls hag hpe hls hW hS hc hs
    have hlk := hC.2.2.2.2.1 _ hw
    rcases (show j = 0 ∨ j = 1 ∨ j = 2 ∨ j = 3 ∨ j = 4 by omega) with rfl | rfl | rfl | rfl | rfl
    · exact va_gets hC.1 hC.2.1 (hE.2.2.1 0 _ rfl).1 hS hC.2.2.2.1 hlk (fun _ q => q) hd kk
    · exact va_gets hC.1 hC.2.1 (hE.2.2.1 1 _ rfl).1 hS hC.2.2.2.1 hlk (fun _ q => q) hd kk
    · exact va_gets hC.1 hC.2.1 (hE.2.2.1 2 _ rfl).1 hS hC.2.2.2.1 hlk (fun _ q => q) hd kk
    · exact va_gets hC.1 hC.2.1 hE.2.2.2.1 hS hC.2.2.2.1 hlk (fun _ q => q) hd kk
    · exact va_gets hC.1 hC.2.1 hE.2.2.2.2.2.1 hS hC.2.2.2.1 hlk (fun _ q => q) hd kk
  · cases h
theorem pm_g_gf {idx : Nat} (hC : pm_Cx X qv D A adI mi p R s m args meth c) (hd : decode (pm_mb mi) pc = .ok (.getfield idx, 3)) (h : pm_gf mi pc lo st g iv idx = some (.inl S')) (k : pm_Go qv D A adI gI mi p l e R s m args below meth c Q S') : pm_Go qv D A adI gI mi p l e R s m args below meth c Q (pc, lo, st, g, iv) := by
  unfold pm_gf at h
  split at h
  · rename_i a r
    split at h
    · rename_i ci sl z hl
      split at h
      · rename_i hci
        subst hci
        obtain ⟨hr, h⟩ := pm_ifn_inv h
        cases h
        intro ad ca L H locs cells slots ls hag hpe hls hW hS hc hs
        have kk := k ad ca L H locs cells slots ls hag hpe hls hW hS hc hs
        have hw := hC.2.2.2.2.1 _ (pm_lf_s hl)
        have hr1 : @LE.le Nat _ 1000 a := hr.1
        have hr2 : @LT.lt Nat _ a 1008 := hr.2
        obtain ⟨i, rfl⟩ := Nat.exists_eq_add_of_le hr1
        have hi8 : i < 8 := by omega
        have hi9 : (1000 + i + 100 : Nat) = 1100 + i := by omega
        have hE := (pm_Env.adC hC hag).1.1 i hi8
        by_cases hsl : sl = 0
        · simp only [hsl, if_true] at hw kk
          have kk : W p l e R s m args below meth c H locs cells slots Q (F0 m (pc + 3) ls (.ref (ad (1100 + i)) :: r.map (pm_cv ad qv))) := by rw [← hi9]; exact kk
          exact vk_getf hC.1 hC.2.1 hE.2.2.1 hS hC.2.2.2.1 hw (fun _ q => q) hd kk
        · simp only [hsl, if_false] at hw kk
          exact vk_getf hC.1 hC.2.1 hE.2.1 hS hC.2.2.2.1 hw (fun _ q => q) hd kk
      · rename_i hci
        obtain ⟨⟨hk, hc7, hsl⟩, h⟩ := pm_ifn_inv h
        cases h
        intro ad ca L H locs cells slots ls hag hpe hls hW hS hc hs
        have kk := k ad ca L H locs cells slots ls hag hpe hls hW hS hc hs
        obtain ⟨j, hj, hj2⟩ := hW.at hk
        rw [pm_ee_o hk (by omega)] at hj2
        refine va_get (ref := (pm_T ci sl).1) hC.1 hC.2.1 hC.2.2.2.2.1 (pm_c_lay hc7) hC.2.2.2.1 hC.2.2.2.2.2.2.1 hW.2.2.2.1 j hj2 (pm_cl_at ci hc7) sl hsl (hC.2.2.2.2.1 _ (pm_lf_w hl hci)) (fun _ q => q) (pm_map_get hsl) hd ?_
        rw [pm_cv_ov (qv := qv)]
        exact kk
    · cases h
  · cases h
theorem pm_g_pf {idx : Nat} (hC : pm_Cx X qv D A adI mi p R s m args meth c) (hd : decode (pm_mb mi) pc = .ok (.putfield idx, 3)) (h : pm_pf mi pc lo st g iv idx = some (.inl S')) (k : pm_Go qv D A adI gI mi p l e R s m args below meth c Q S') : pm_Go qv D A adI gI mi p l e R s m args below meth c Q (pc, lo, st, g, iv) := by
  have key : ∀ {v : Value} {a ci sl z : Nat} {r : List Value} {g' : pm_G} {iv' : pm_V}, st = v :: .ref a :: r → pm_lft.lookup (pm_mc mi, idx) = some (ci, sl, z) → (g.1 a = some (ci, 0) ∧ ci < 7 ∧ sl < pm_nf ci ∧ (pm_ff ci sl = false ∨ (pm_mk mi = 2 ∧ pm_mc mi = ci))) → S' = (pc + 3, lo, r, g', iv') → g'.1 = g.1 → g'.2.2 = g.2.2 →
      (∀ ad : Nat → Nat, narrow (pm_tyf ci sl) (pm_cv ad qv v) = pm_cv ad qv v ∧ fits (pm_tyf ci sl) (pm_cv ad qv v) = true) → (∀ ad : Nat → Nat, pm_cv ad .null (pm_ov g' iv' ci a sl) = pm_cv ad qv v) → (∀ j, j ≠ sl → pm_ov g' iv' ci a j = pm_ov g iv ci a j) → (∀ q, q ≠ a → g'.2.1 q = g.2.1 q ∧ iv' q = iv q) → pm_Go qv D A adI gI mi p l e R s m args below meth c Q (pc, lo, st, g, iv) := by
    intro v a ci sl z r g' iv' e1 hl hc1 e2 e3 e4 hfit hnew hold hoth
    subst e1; subst e2
    obtain ⟨hk, hc7, hsl, hfin⟩ := hc1
    intro ad ca L H locs cells slots ls hag hpe hls hW hS hc hs
    obtain ⟨j, hj, hj2⟩ := hW.at hk
    have hk' : g'.1 a = some (ci, 0) := by rw [e3]; exact hk
    have hci : ¬ ci = 100 := by omega
    rw [pm_ee_o hk (by omega)] at hj2
    have hx : (.inr (ci, ((List.range (pm_nf ci)).map fun sl => pm_cv ad .null (pm_ov g iv ci a sl)).set sl (pm_cv ad qv v)) : va_E) = pm_ee ad ca g' iv' a := by
      rw [pm_ee_o hk' (by omega), ← hnew ad, pm_map_set (f' := fun sl => pm_cv ad .null (pm_ov g' iv' ci a sl)) hsl (fun j hj => by rw [hold j hj])]
    have ho : ∀ q ∈ L, q ≠ a → pm_ee ad ca g' iv' q = pm_ee ad ca g iv q := by
      intro q _ hq
      unfold pm_ee pm_ov
      rw [e3, (hoth q hq).1, (hoth q hq).2]
    have fin : ∀ (H1 : Heap) (locs1 : List Loc), va_P D pm_cl ((L.map (pm_e ad ca g iv)).set j (ad a, .inr (ci, ((List.range (pm_nf ci)).map fun sl => pm_cv ad .null (pm_ov g iv ci a sl)).set sl (pm_cv ad qv v)))) H1 → va_D A ((L.map (pm_e ad ca g iv)).set j (ad a, .inr (ci, ((List.range (pm_nf ci)).map fun sl => pm_cv ad .null (pm_ov g iv ci a sl)).set sl (pm_cv ad qv v)))) → va_S A s.heap H1 locs1 → W p l e R s m args below meth c H1 locs1 cells slots Q (F0 m (pc + 3) ls (r.map (pm_cv ad qv))) := fun H1 locs1 hP1 hD1 hS1 =>
      k ad ca L H1 locs1 cells slots ls hag (fun q hq => by show g'.1 q ≠ none; rw [e3]; exact hpe q hq) hls (hW.upd e3 hj hx ho hP1 hD1) hS1 (by show _ = g'.2.2.2.1; rw [e4]; exact hc) (by show _ = g'.2.2.2.2; rw [e4]; exact hs)
    have hlen : sl < ((List.range (pm_nf ci)).map fun sl => pm_cv ad .null (pm_ov g iv ci a sl)).length := by simpa using hsl
    obtain ⟨hff, hown⟩ := pm_fff ci hc7 sl hsl
    by_cases hf : pm_ff ci sl = false
    · exact va_put (ref := (pm_T ci sl).1) hC.1 hC.2.1 hC.2.2.2.2.1 (pm_c_lay hc7) (pm_tyf ci) (pm_fty ci hc7) (pm_fn ci hc7) hC.2.2.2.1 hC.2.2.2.2.2.2.1 hW.2.2.2.1 hW.2.2.2.2.1 hS j hj2 (pm_cl_at ci hc7) sl hsl (hC.2.2.2.2.1 _ (pm_lf_w hl hci)) (fun _ q => q) (by rw [hff]; exact hf) (pm_fty ci hc7 sl hsl) (hfit ad).1 (hfit ad).2 hlen hd fin
    · obtain ⟨hm2, hmc⟩ := hfin.resolve_left hf
      exact va_putF (ref := (pm_T ci sl).1) hC.1 hC.2.1 hC.2.2.2.2.1 (pm_c_lay hc7) (pm_tyf ci) (pm_fty ci hc7) (pm_fn ci hc7) hC.2.2.2.1 hC.2.2.2.2.2.2.1 hW.2.2.2.1 hW.2.2.2.2.1 hS j hj2 (pm_cl_at ci hc7) sl hsl (hC.2.2.2.2.1 _ (pm_lf_w hl hci)) (fun _ q => q) (by rw [hff]; simpa using hf) (hC.2.2.2.2.2.1 hm2) (by rw [hown, hmc]) (pm_fty ci hc7 sl hsl) (hfit ad).1 (hfit ad).2 hlen hd fin
  unfold pm_pf at h
  split at h
  · rename_i v a r
    split at h
    · rename_i ci sl z hl
      obtain ⟨hc1, h⟩ := pm_ifn_inv h
      have hrf := pm_frf ci hc1.2.1 sl hc1.2.2.1
      split at h
      · rename_i x
        obtain ⟨h2, h⟩ := pm_ifn_inv h
        cases h
        refine key rfl hl hc1 rfl rfl rfl (fun ad => ?_) (fun ad => ?_) (fun j hj => ?_) (fun q hq => ⟨rfl, ?_⟩)
        · rw [hrf.1 h2]
          exact ⟨rfl, rfl⟩
        · unfold pm_ov
          rw [if_neg (by rw [h2]; exact Bool.false_ne_true)]
          simp [pm_iw, upd, pm_cv]
        · unfold pm_ov
          split
          · rfl
          · simp [pm_iw, upd, hj]
        · simp [pm_iw, hq]
      · rename_i t
        obtain ⟨h2, h⟩ := pm_ifn_inv h
        cases h
        refine key rfl hl hc1 rfl rfl rfl (fun ad => ?_) (fun ad => ?_) (fun j hj => ?_) (fun q hq => ⟨?_, rfl⟩)
        · rcases hrf.2 h2 with ⟨n, hn⟩ | ⟨n, hn⟩ <;> rw [hn] <;> exact ⟨rfl, rfl⟩
        · unfold pm_ov
          rw [if_pos h2]
          simp [pm_rw, va_up, va_rf, pm_cv]
        · unfold pm_ov
          split
          · simp [pm_rw, va_up, hj]
          · rfl
        · simp [pm_rw, hq]
      · cases h
    · cases h
  · cases h
end HP
end
section
/-! SOUNDNESS of the small machine: arrays, new cells -/
section HP2
variable {X : pm_X} {cal : pm_C} {qv : Value} {D : va_G} {A : Nat → Prop} {adI : Nat → Nat} {gI : pm_G} {mi : Nat} {p : Program} {l : Launch} {e : Env} {R : Room} {s : State} {m : MethodId} {args : Array Value} {below : List Frame} {meth : Method} {c : Code} {Q : State → Prop} {S' : pm_S} {pc : Nat} {lo : List (Option Value)} {st : List Value} {g : pm_G} {iv : pm_V}
/-- an array of numbers is one of the world's, or one that nobody writes -/
theorem pm_ar_cases {a q n : Nat} {f : Nat → Int32} (h : pm_ar X g iv a = some (q, n, f)) : (g.1 a = some (q, n) ∧ 8 ≤ q ∧ f = iv a) ∨ (a = 1300 ∧ q = 8 ∧ n = X.1 ∧ f = X.2) ∨ (∃ (i : Nat) (t : String × List Int32), a = 1200 + i ∧ pm_tb[i]? = some t ∧ q = 8 ∧ n = t.2.length ∧ f = fun j => t.2.getD j 0) ∨ (∃ (i : Nat) (t : List Int32), a = 1100 + i ∧ pm_sb[i]? = some t ∧ q = 9 ∧ n = t.length ∧ f = fun j => t.getD j 0) := by
  unfold pm_ar at h
  split at h
  · rename_i q1 n1 hk
    split at h
    · rename_i h8
      cases h
      exact Or.inl ⟨hk, h8, rfl⟩
    · cases h
  · split at h
    · unfold pm_xa at h
      split at h
      · rename_i ha
        cases h
        exact Or.inr (Or.inl ⟨ha, rfl, rfl, rfl⟩)
      · have last : pm_xs a = some (q, n, f) → ∃ (i : Nat) (t : List Int32), a = 1100 + i ∧ pm_sb[i]? = some t ∧ q = 9 ∧ n = t.length ∧ f = fun j => t.getD j 0 := by
          intro h
          unfold pm_xs at h
          split at h
          · rename_i t ht
            split at h
            · rename_i hle
              cases h
              exact ⟨a - 1100, t, by omega, ht, rfl, rfl, rfl⟩
            · cases h
          · cases h
        split at h
        · rename_i t ht
          split at h
          · rename_i hle
            cases h
            exact Or.inr (Or.inr (Or.inl ⟨a - 1200, t, by omega, ht, rfl, rfl, rfl⟩))
          · exact Or.inr (Or.inr (Or.inr (last h)))
        · exact Or.inr (Or.inr (Or.inr (last h)))
    · cases h
theorem pm_ty8 {q : Nat} (h : q = 8) : pm_ty q = .int := by subst h; rfl
theorem pm_ty9 {q : Nat} (h : q = 9) : pm_ty q = .byte := by subst h; rfl
theorem pm_ty10 {q : Nat} (h : q = 10) : pm_ty q = .boolean := by subst h; rfl
theorem pm_slen {i : Nat} {t : List Int32} (h : pm_sb[i]? = some t) : i < 8 ∧ (pm_sb.map List.length).getD i 0 = t.length ∧ pm_sb.getD i [] = t := by
  have hi := (List.getElem?_eq_some_iff.mp h).1
  refine ⟨hi, ?_, ?_⟩
  · rw [List.getD_eq_getElem?_getD, List.getElem?_map, h]
    rfl
  · rw [List.getD_eq_getElem?_getD, h]
    rfl
theorem pm_g_aln (hC : pm_Cx X qv D A adI mi p R s m args meth c) (hd : decode (pm_mb mi) pc = .ok (.arraylength, 1)) (h : pm_aln X pc lo st g iv = some (.inl S')) (k : pm_Go qv D A adI gI mi p l e R s m args below meth c Q S') : pm_Go qv D A adI gI mi p l e R s m args below meth c Q (pc, lo, st, g, iv) := by
  unfold pm_aln at h
  split at h
  · rename_i a r
    split at h
    · rename_i q n f ha
      obtain ⟨hn, h⟩ := pm_ifn_inv h
      cases h
      intro ad ca L H locs cells slots ls hag hpe hls hW hS hc hs
      have kk := k ad ca L H locs cells slots ls hag hpe hls hW hS hc hs
      have hE := pm_Env.adC hC hag
      rcases pm_ar_cases ha with ⟨hk, h8, -⟩ | ⟨rfl, -, rfl, -⟩ | ⟨i, t, rfl, ht, -, rfl, -⟩ | ⟨i, t, rfl, ht, -, rfl, -⟩
      · obtain ⟨j, hj, hj2⟩ := hW.at hk
        have hKa := hW.K hC.2.2.2.2.2.2.1 hk h8
        by_cases h11 : q = 11
        · subst h11
          rw [pm_ee_r hk] at hj2
          exact va_alen hC.1 hC.2.1 hKa hW.2.2.2.1 j 0 hj2 rfl rfl hd kk
        · have h4 := (hW.2.2.2.2.2 a q n hk h8).1
          rw [pm_ee_i hk (by omega)] at hj2
          exact va_alen hC.1 hC.2.1 hKa hW.2.2.2.1 j 0 hj2 rfl rfl hd kk
      · have hb : ad 1300 < s.heap.size := by
          obtain ⟨scr, h1, -⟩ := hE.2.2.2.2.2.2.2.1
          exact (Array.getElem?_eq_some_iff.mp h1).1
        exact va_slen hC.1 hC.2.1 hE.2.2.2.2.2.2.2.1 hb hE.2.2.2.2.2.2.2.2.1 hS hd kk
      · exact va_tlen hC.1 hC.2.1 (hE.2.2.1 i t ht).2 hS rfl hd kk
      · obtain ⟨hi, hl, -⟩ := pm_slen ht
        have hT := (hE.1.1 i hi).2.2.2
        rw [hl] at hT
        exact va_tlen hC.1 hC.2.1 hT hS rfl hd kk
    · cases h
  · cases h
theorem pm_g_ald {b : Bool} (hC : pm_Cx X qv D A adI mi p R s m args meth c) (hd : decode (pm_mb mi) pc = .ok (if b then .iaload else .baload, 1)) (h : pm_ald X pc lo st g iv b = some (.inl S')) (k : pm_Go qv D A adI gI mi p l e R s m args below meth c Q S') : pm_Go qv D A adI gI mi p l e R s m args below meth c Q (pc, lo, st, g, iv) := by
  unfold pm_ald at h
  split at h
  · rename_i x a r
    split at h
    · rename_i q n f ha
      obtain ⟨⟨hq, hin⟩, h⟩ := pm_ifn_inv h
      cases h
      intro ad ca L H locs cells slots ls hag hpe hls hW hS hc hs
      have kk := k ad ca L H locs cells slots ls hag hpe hls hW hS hc hs
      have hE := pm_Env.adC hC hag
      rcases pm_ar_cases ha with ⟨hk, h8, rfl⟩ | ⟨rfl, rfl, rfl, rfl⟩ | ⟨i, t, rfl, ht, rfl, rfl, rfl⟩ | ⟨i, t, rfl, ht, rfl, rfl, rfl⟩
      · obtain ⟨j, hj, hj2⟩ := hW.at hk
        have hKa := hW.K hC.2.2.2.2.2.2.1 hk h8
        cases b with
        | true =>
          have hq8 : q = 8 := hq
          rw [pm_ee_i hk (Or.inl hq8)] at hj2
          rw [pm_ty8 hq8] at hKa
          exact va_iald hC.1 hC.2.1 hKa hW.2.2.2.1 j 0 hj2 rfl hin hd kk
        | false =>
          rcases (show q = 9 ∨ q = 10 from hq) with hq9 | hq10
          · rw [pm_ee_i hk (Or.inr (Or.inl hq9))] at hj2
            rw [pm_ty9 hq9] at hKa
            exact va_bald hC.1 hC.2.1 hKa hW.2.2.2.1 j 0 hj2 rfl hin hd kk
          · rw [pm_ee_i hk (Or.inr (Or.inr hq10))] at hj2
            rw [pm_ty10 hq10] at hKa
            exact va_zald hC.1 hC.2.1 hKa hW.2.2.2.1 j 0 hj2 rfl hin hd kk
      · cases b with
        | true =>
          have hb : ad 1300 < s.heap.size := by
            obtain ⟨scr, h1, -⟩ := hE.2.2.2.2.2.2.2.1
            exact (Array.getElem?_eq_some_iff.mp h1).1
          exact va_sld hC.1 hC.2.1 hE.2.2.2.2.2.2.2.1 hb hE.2.2.2.2.2.2.2.2.1 hS hin hd kk
        | false => exact absurd (show 8 = 9 ∨ 8 = 10 from hq) (by decide)
      · cases b with
        | true => exact va_ti hC.1 hC.2.1 (hE.2.2.1 i t ht).2 hS hin rfl hd kk
        | false => exact absurd (show 8 = 9 ∨ 8 = 10 from hq) (by decide)
      · cases b with
        | true => exact absurd (show 9 = 8 from hq) (by decide)
        | false =>
          obtain ⟨hi, hl, hb⟩ := pm_slen ht
          have hT := (hE.1.1 i hi).2.2.2
          rw [hl, hb] at hT
          exact va_tb hC.1 hC.2.1 hT hS hin rfl hd kk
    · cases h
  · cases h
theorem pm_g_ast {b : Bool} (hC : pm_Cx X qv D A adI mi p R s m args meth c) (hd : decode (pm_mb mi) pc = .ok (if b then .iastore else .bastore, 1)) (h : pm_ast pc lo st g iv b = some (.inl S')) (k : pm_Go qv D A adI gI mi p l e R s m args below meth c Q S') : pm_Go qv D A adI gI mi p l e R s m args below meth c Q (pc, lo, st, g, iv) := by
  unfold pm_ast at h
  split at h
  · rename_i x i a r
    split at h
    · rename_i q n hk
      obtain ⟨⟨hq, hin⟩, h⟩ := pm_ifn_inv h
      cases h
      intro ad ca L H locs cells slots ls hag hpe hls hW hS hc hs
      have h8 : 8 ≤ q := by cases b <;> simp at hq <;> omega
      have hq3 : q = 8 ∨ q = 9 ∨ q = 10 := by cases b <;> simp at hq <;> omega
      obtain ⟨j, hj, hj2⟩ := hW.at hk
      have hKa := hW.K hC.2.2.2.2.2.2.1 hk h8
      have hx : ∀ y : Int32, (.inl (ca a, n, .inl (upd (iv a) i.toNatClampNeg y)) : va_E) = pm_ee ad ca g (pm_iw iv a i.toNatClampNeg y) a := fun y => by
        rw [pm_ee_i hk hq3]
        simp [pm_iw]
      have ho : ∀ y : Int32, ∀ z ∈ L, z ≠ a → pm_ee ad ca g (pm_iw iv a i.toNatClampNeg y) z = pm_ee ad ca g iv z := by
        intro y z _ hz
        unfold pm_ee pm_ov
        simp [pm_iw, hz]
      rw [pm_ee_i hk hq3] at hj2
      have fin : ∀ (y : Int32) (H1 : Heap) (locs1 : List Loc), (if q = 8 then x else if q = 9 then vp_nar .byte x else vp_nar .boolean x) = y → va_P D pm_cl ((L.map (pm_e ad ca g iv)).set j (ad a, .inl (ca a, n, .inl (upd (iv a) i.toNatClampNeg y)))) H1 → va_D A ((L.map (pm_e ad ca g iv)).set j (ad a, .inl (ca a, n, .inl (upd (iv a) i.toNatClampNeg y)))) → va_S A s.heap H1 locs1 → W p l e R s m args below meth c H1 locs1 cells slots Q (F0 m (pc + 1) ls (r.map (pm_cv ad qv))) := fun y H1 locs1 hy hP1 hD1 hS1 =>
        k ad ca L H1 locs1 cells slots ls hag hpe hls (by rw [hy]; exact hW.upd rfl hj (hx y) (ho y) hP1 hD1) hS1 hc hs
      cases b with
      | true =>
        have hq8 : q = 8 := hq
        rw [pm_ty8 hq8] at hKa
        exact va_iast hC.1 hC.2.1 hKa hW.2.2.2.1 hW.2.2.2.2.1 hS j 0 hj2 rfl hin hd (fun H1 locs1 a1 a2 a3 => fin x H1 locs1 (by rw [if_pos hq8]) a1 a2 a3)
      | false =>
        rcases (show q = 9 ∨ q = 10 from hq) with hq9 | hq10
        · rw [pm_ty9 hq9] at hKa
          exact va_bast hC.1 hC.2.1 hKa hW.2.2.2.1 hW.2.2.2.2.1 hS j 0 hj2 rfl hin hd (fun H1 locs1 a1 a2 a3 => fin _ H1 locs1 (by rw [if_neg (by omega), if_pos hq9]) a1 a2 a3)
        · rw [pm_ty10 hq10] at hKa
          exact va_zast hC.1 hC.2.1 hKa hW.2.2.2.1 hW.2.2.2.2.1 hS j 0 hj2 rfl hin hd (fun H1 locs1 a1 a2 a3 => fin _ H1 locs1 (by rw [if_neg (by omega), if_neg (by omega)]) a1 a2 a3)
    · cases h
  · cases h
theorem pm_cv_rf {ad : Nat → Nat} (x : Option Nat) : pm_cv ad qv (va_rf x) = va_rf (x.map ad) := by cases x <;> rfl
theorem pm_g_aal (hC : pm_Cx X qv D A adI mi p R s m args meth c) (hd : decode (pm_mb mi) pc = .ok (.aaload, 1)) (h : pm_aal pc lo st g iv = some (.inl S')) (k : pm_Go qv D A adI gI mi p l e R s m args below meth c Q S') : pm_Go qv D A adI gI mi p l e R s m args below meth c Q (pc, lo, st, g, iv) := by
  unfold pm_aal at h
  split at h
  · rename_i i a r
    split at h
    · rename_i q n hk
      obtain ⟨⟨hq, hin⟩, h2⟩ := pm_ifn_inv h
      subst hq
      cases h2
      intro ad ca L H locs cells slots ls hag hpe hls hW hS hc hs
      have kk := k ad ca L H locs cells slots ls hag hpe hls hW hS hc hs
      obtain ⟨j, hj, hj2⟩ := hW.at hk
      have hKa := hW.K hC.2.2.2.2.2.2.1 hk (by decide)
      rw [pm_ee_r hk] at hj2
      refine va_aldq (C := "HillHouses$Slope") hC.1 hC.2.1 hKa hW.2.2.2.1 j 0 hj2 rfl hin hd ?_
      rw [← pm_cv_rf (qv := qv)]
      exact kk
    · cases h
  · cases h
theorem pm_g_aas (hC : pm_Cx X qv D A adI mi p R s m args meth c) (hd : decode (pm_mb mi) pc = .ok (.aastore, 1)) (h : pm_aas pc lo st g iv = some (.inl S')) (k : pm_Go qv D A adI gI mi p l e R s m args below meth c Q S') : pm_Go qv D A adI gI mi p l e R s m args below meth c Q (pc, lo, st, g, iv) := by
  unfold pm_aas at h
  split at h
  · rename_i t i a r
    split at h
    · rename_i q n hk
      obtain ⟨⟨hq, ht, hin⟩, h2⟩ := pm_ifn_inv h
      subst hq
      cases h2
      intro ad ca L H locs cells slots ls hag hpe hls hW hS hc hs
      obtain ⟨j, hj, hj2⟩ := hW.at hk
      obtain ⟨jt, hjt, hjt2⟩ := hW.at ht
      have hKa := hW.K hC.2.2.2.2.2.2.1 hk (by decide)
      rw [pm_ee_r hk] at hj2
      rw [pm_ee_o ht (by decide)] at hjt2
      have hk' : ((g.1, pm_rw g.2.1 a i.toNatClampNeg (some t), g.2.2) : pm_G).1 a = some (11, n) := hk
      have hx : (.inl (ca a, n, .inr (.inr (.inr (.inr (va_up (fun i => (g.2.1 a i).map ad) i.toNatClampNeg (some (ad t))))))) : va_E) = pm_ee ad ca (g.1, pm_rw g.2.1 a i.toNatClampNeg (some t), g.2.2) iv a := by
        have hf : va_up (fun i => (g.2.1 a i).map ad) i.toNatClampNeg (some (ad t)) = fun z => (((g.1, pm_rw g.2.1 a i.toNatClampNeg (some t), g.2.2) : pm_G).2.1 a z).map ad := by
          funext z
          by_cases hz : z = i.toNatClampNeg
          · simp [va_up, pm_rw, hz]
          · simp [va_up, pm_rw, hz]
        rw [pm_ee_r hk', hf]
      have ho : ∀ z ∈ L, z ≠ a → pm_ee ad ca (g.1, pm_rw g.2.1 a i.toNatClampNeg (some t), g.2.2) iv z = pm_ee ad ca g iv z := by
        intro z _ hz
        unfold pm_ee pm_ov
        simp [pm_rw, hz]
      exact va_astq (r := ("HillHouses$Slope", pm_T 3, pm_nf 3)) hC.1 hC.2.1 hKa hW.2.2.2.1 hW.2.2.2.2.1 hS j 0 jt 3 hj2 rfl hjt2 rfl hin hd (fun H1 locs1 a1 a2 a3 => k ad ca L H1 locs1 cells slots ls hag hpe hls (hW.upd rfl hj hx ho a1 a2) a3 hc hs)
    · cases h
  · cases h
/-- a new cell in the world -/
theorem pm_cv_agree {ad ad' : Nat → Nat} (h : ∀ t, pm_okt g t → ad' t = ad t) {v : Value} (hv : pm_okv g v) : pm_cv ad' qv v = pm_cv ad qv v := by
  cases v with
  | ref t => show Value.ref (ad' t) = Value.ref (ad t); rw [h t (hv t rfl)]
  | _ => rfl
theorem pm_st_agree {ad ad' : Nat → Nat} (h : ∀ t, pm_okt g t → ad' t = ad t) {r : List Value} (hr : ∀ v ∈ r, pm_okv g v) : r.map (pm_cv ad' qv) = r.map (pm_cv ad qv) := List.map_congr_left fun v hv => pm_cv_agree h (hr v hv)
theorem pm_Ls_agree {ad ad' : Nat → Nat} {ls : Array Slot} {nL : Nat} (h : ∀ t, pm_okt g t → ad' t = ad t) (hl : ∀ v, some v ∈ lo → pm_okv g v) (hls : pm_Ls ad qv ls nL lo) : pm_Ls ad' qv ls nL lo := ⟨hls.1, hls.2.1, hls.2.2.1, fun i v hi => by rw [pm_cv_agree h (hl v (List.mem_of_getElem? hi))]; exact hls.2.2.2 i v hi⟩
/-- the world of the same cells, under other addresses of cells that aren't there -/
theorem pm_ee_agree {ad ad' : Nat → Nat} {ca ca' : Nat → ClassId} {g' : pm_G} {iv' : pm_V} (hg : pm_okg g) (h : ∀ t, pm_okt g t → ad' t = ad t) {k : Nat} (h1 : g'.1 k = g.1 k) (h2 : g'.2.1 k = g.2.1 k) (h3 : iv' k = iv k) (h4 : ca' k = ca k) : pm_ee ad' ca' g' iv' k = pm_ee ad ca g iv k := by
  have hm : ∀ i, (g.2.1 k i).map ad' = (g.2.1 k i).map ad := fun i => by
    cases hi : g.2.1 k i with
    | none => rfl
    | some t => show some (ad' t) = some (ad t); rw [h t (hg k i t hi)]
  unfold pm_ee pm_ov
  rw [h1, h2, h3, h4]
  split
  · split
    · congr 3
      funext sl
      split
      · rw [pm_cv_rf, pm_cv_rf, hm]
      · rfl
    · split
      · simp only [hm]
      · rfl
  · rfl
theorem pm_newW {ad : Nat → Nat} {ca : Nat → ClassId} {L : List Nat} {H H1 : Heap} {q n z a : Nat} {cq : ClassId} {x : va_E} (hW : pm_Wd D A ad ca L g iv s H) (hg : pm_okg g) (hn : g.1 g.2.2.1 = none) (hlt : g.2.2.1 < 1000) (hP : va_P D pm_cl (L.map (pm_e ad ca g iv) ++ [(a, x)]) H1) (hD : va_D A (L.map (pm_e ad ca g iv) ++ [(a, x)]))
    (hx : x = pm_ee (fun k => if k = g.2.2.1 then a else ad k) (fun k => if k = g.2.2.1 then cq else ca k) (pm_nc g q n z) (pm_ir iv g.2.2.1 (fun _ => 0)) g.2.2.1) (hq : 8 ≤ q → q ≤ 11 ∧ ArrOfT s cq (pm_ty q) ∧ va_RA s cq (pm_ty q)) :
    pm_Wd D A (fun k => if k = g.2.2.1 then a else ad k) (fun k => if k = g.2.2.1 then cq else ca k) (L ++ [g.2.2.1]) (pm_nc g q n z) (pm_ir iv g.2.2.1 (fun _ => 0)) s H1 := by
  have hag : ∀ t, pm_okt g t → (fun k => if k = g.2.2.1 then a else ad k) t = ad t := fun t ht => by
    show (if t = g.2.2.1 then a else ad t) = ad t
    rw [if_neg]
    rintro rfl
    rcases ht with h | h
    · exact h hn
    · omega
  have hnL : g.2.2.1 ∉ L := fun h => (hW.1 _).mp h hn
  have hmap : L.map (pm_e (fun k => if k = g.2.2.1 then a else ad k) (fun k => if k = g.2.2.1 then cq else ca k) (pm_nc g q n z) (pm_ir iv g.2.2.1 (fun _ => 0))) = L.map (pm_e ad ca g iv) := by
    refine List.map_congr_left fun k hk => ?_
    have hne : k ≠ g.2.2.1 := fun h => hnL (h ▸ hk)
    unfold pm_e
    rw [pm_ee_agree (g := g) (iv := iv) (ca := ca) hg hag (by simp [pm_nc, hne]) (by simp [pm_nc, hne]) (by simp [pm_ir, hne]) (by simp [hne])]
    simp [hne]
  have hfull : (L ++ [g.2.2.1]).map (pm_e (fun k => if k = g.2.2.1 then a else ad k) (fun k => if k = g.2.2.1 then cq else ca k) (pm_nc g q n z) (pm_ir iv g.2.2.1 (fun _ => 0))) = L.map (pm_e ad ca g iv) ++ [(a, x)] := by
    rw [List.map_append, hmap, hx]
    simp [pm_e]
  refine ⟨fun k => ?_, ?_, fun k hk => ?_, by rw [hfull]; exact hP, by rw [hfull]; exact hD, fun k q' n' hk h8 => ?_⟩
  · by_cases hk : k = g.2.2.1
    · simp [hk, pm_nc]
    · simp [hk, pm_nc, hW.1 k]
  · exact List.nodup_append.mpr ⟨hW.2.1, by simp, fun b hb b' hb' h => by
      rw [List.mem_singleton] at hb'
      subst hb'
      subst h
      exact hnL hb⟩
  · rcases List.mem_append.mp hk with h | h
    · exact hW.2.2.1 k h
    · rw [List.mem_singleton] at h
      omega
  · by_cases hkn : k = g.2.2.1
    · simp only [pm_nc, hkn, if_true] at hk
      cases hk
      simp only [hkn, if_true]
      exact hq h8
    · simp only [pm_nc, hkn, if_false] at hk
      simp only [hkn, if_false]
      exact hW.2.2.2.2.2 k q' n' hk h8
end HP2
end
section
/-! SOUNDNESS of the small machine: new cells -/
section AL
variable {X : pm_X} {cal : pm_C} {qv : Value} {D : va_G} {A : Nat → Prop} {adI : Nat → Nat} {gI : pm_G} {mi : Nat} {p : Program} {l : Launch} {e : Env} {R : Room} {s : State} {m : MethodId} {args : Array Value} {below : List Frame} {meth : Method} {c : Code} {Q : State → Prop} {S' : pm_S} {pc : Nat} {lo : List (Option Value)} {st r : List Value} {g : pm_G} {iv : pm_V}
/-- from a place ahead of a new cell to the place behind it -/
theorem pm_newG {n q z pc' : Nat} (hC : pm_Cx X qv D A adI mi p R s m args meth c) (hI : pm_Iv (pc, lo, st, g, iv)) (hr : ∀ v ∈ r, pm_okv g v) (hn : g.1 g.2.2.1 = none) (hlt : g.2.2.1 < 1000) (k : pm_Go qv D A adI gI mi p l e R s m args below meth c Q (pc', lo, .ref g.2.2.1 :: r, pm_nc g q n z, pm_ir iv g.2.2.1 (fun _ => 0)))
    {ad : Nat → Nat} {ca : Nat → ClassId} {L : List Nat} {H : Heap} {locs : List Loc} {cells slots : Nat} {ls : Array Slot} (hag : ∀ k, gI.1 k ≠ none ∨ 1000 ≤ k → ad k = adI k) (hpe : ∀ k, gI.1 k ≠ none → g.1 k ≠ none) (hls : pm_Ls ad qv ls (pm_ml mi) lo) (hW : pm_Wd D A ad ca L g iv s H) (hc : cells + gI.2.2.2.1 = g.2.2.2.1) (hs : slots + gI.2.2.2.2 = g.2.2.2.2)
    {a : Nat} {cq : ClassId} {x : va_E} {H1 : Heap} (hP : va_P D pm_cl (L.map (pm_e ad ca g iv) ++ [(a, x)]) H1) (hD : va_D A (L.map (pm_e ad ca g iv) ++ [(a, x)])) (hS1 : va_S A s.heap H1 locs) (hx : x = pm_ee (fun k => if k = g.2.2.1 then a else ad k) (fun k => if k = g.2.2.1 then cq else ca k) (pm_nc g q n z) (pm_ir iv g.2.2.1 (fun _ => 0)) g.2.2.1) (hq : 8 ≤ q → q ≤ 11 ∧ ArrOfT s cq (pm_ty q) ∧ va_RA s cq (pm_ty q)) :
    W p l e R s m args below meth c H1 locs (cells + 1) (slots + z) Q (F0 m pc' ls (.ref a :: r.map (pm_cv ad qv))) := by
  have hag2 : ∀ t, pm_okt g t → (fun k => if k = g.2.2.1 then a else ad k) t = ad t := fun t ht => by
    show (if t = g.2.2.1 then a else ad t) = ad t
    rw [if_neg]
    rintro rfl
    rcases ht with h | h
    · exact h hn
    · omega
  have kk := k (fun k => if k = g.2.2.1 then a else ad k) (fun k => if k = g.2.2.1 then cq else ca k) (L ++ [g.2.2.1]) H1 locs (cells + 1) (slots + z) ls (fun j hj => by
      exact (hag2 j (hj.imp (hpe j) id)).trans (hag j hj)) (fun j hj => by
      show (if j = g.2.2.1 then _ else _) ≠ none
      split
      · exact Option.some_ne_none _
      · exact hpe j hj) (pm_Ls_agree hag2 hI.2.2 hls) (pm_newW hW hI.1 hn hlt hP hD hx hq) hS1 (by show _ = g.2.2.2.1 + 1; omega) (by show _ = g.2.2.2.2 + z; omega)
  have e1 : (.ref g.2.2.1 :: r).map (pm_cv (fun k => if k = g.2.2.1 then a else ad k) qv) = .ref a :: r.map (pm_cv ad qv) := by
    rw [List.map_cons, pm_st_agree hag2 hr]
    simp [pm_cv]
  show W p l e R s m args below meth c H1 locs (cells + 1) (slots + z) Q (F0 m pc' ls _)
  rw [← e1]
  exact kk
theorem pm_g_new {idx : Nat} (hC : pm_Cx X qv D A adI mi p R s m args meth c) (hI : pm_Iv (pc, lo, st, g, iv)) (hd : decode (pm_mb mi) pc = .ok (.new idx, 3)) (h : pm_new mi pc lo st g iv idx = some (.inl S')) (hb : S'.2.2.2.1.2.2.2.1 ≤ gI.2.2.2.1 + R.cells ∧ S'.2.2.2.1.2.2.2.2 ≤ gI.2.2.2.2 + R.slots) (k : pm_Go qv D A adI gI mi p l e R s m args below meth c Q S') : pm_Go qv D A adI gI mi p l e R s m args below meth c Q (pc, lo, st, g, iv) := by
  unfold pm_new at h
  split at h
  · rename_i ci z hl
    obtain ⟨⟨hn, hlt⟩, h⟩ := pm_ifn_inv h
    cases h
    intro ad ca L H locs cells slots ls hag hpe hls hW hS hc hs
    obtain ⟨hc7, hw⟩ := pm_lc_w hl
    have hb1 : g.2.2.2.1 + 1 ≤ gI.2.2.2.1 + R.cells := hb.1
    have hb2 : g.2.2.2.2 + pm_nf ci ≤ gI.2.2.2.2 + R.slots := hb.2
    have hc : cells + gI.2.2.2.1 = g.2.2.2.1 := hc
    have hs : slots + gI.2.2.2.2 = g.2.2.2.2 := hs
    refine va_new (ci := ci) (C := pm_cn ci) (T := pm_T ci) (N := pm_nf ci) (fs := (List.range (pm_nf ci)).map fun sl => if pm_rf ci sl = true then Value.null else .int 0) hC.1 hC.2.1 hC.2.2.2.2.1 (pm_c_lay hc7) (pm_tyf ci) (pm_fty ci hc7) hC.2.2.2.1 (hC.2.2.2.2.1 _ hw) (hC.2.2.2.2.1 _ (pm_c_ins hc7)) (hC.2.2.2.2.1 _ (pm_c_ini hc7)) hC.2.2.2.2.2.2.1 hW.2.2.2.1 hW.2.2.2.2.1 hS hC.2.2.2.2.2.2.2.2.1 (pm_cl_at ci hc7) (fun j hj => ?_) (by omega) (by omega) hd (fun a H1 hP hD hS1 => ?_)
    · unfold vp_V
      rw [List.getD_eq_getElem?_getD, pm_map_get hj]
      obtain ⟨q1, q2⟩ := pm_frf ci hc7 j hj
      cases hr : pm_rf ci j with
      | false => rw [q1 hr]; rfl
      | true => rcases q2 hr with ⟨n, hn⟩ | ⟨n, hn⟩ <;> rw [hn] <;> rfl
    · refine pm_newG (a := a) (cq := 0) hC hI hI.2.1 hn hlt k hag hpe hls hW hc hs hP hD hS1 ?_ (fun h8 => by omega)
      rw [pm_ee_o (ci := ci) (n := 0) (by simp [pm_nc]) (by omega)]
      congr 3
      funext sl
      unfold pm_ov
      split
      · simp [pm_nc, va_rf, pm_cv]
      · simp [pm_ir, pm_cv]
  · cases h
theorem pm_g_nwa {t : ArrayType} (hC : pm_Cx X qv D A adI mi p R s m args meth c) (hI : pm_Iv (pc, lo, st, g, iv)) (hd : decode (pm_mb mi) pc = .ok (.newarray t, 2)) (h : pm_nwa pc lo st g iv t = some (.inl S')) (hb : S'.2.2.2.1.2.2.2.1 ≤ gI.2.2.2.1 + R.cells ∧ S'.2.2.2.1.2.2.2.2 ≤ gI.2.2.2.2 + R.slots) (k : pm_Go qv D A adI gI mi p l e R s m args below meth c Q S') : pm_Go qv D A adI gI mi p l e R s m args below meth c Q (pc, lo, st, g, iv) := by
  unfold pm_nwa at h
  split at h
  · rename_i n r
    obtain ⟨⟨hn, hlt, h8, hn0, hnm⟩, h⟩ := pm_ifn_inv h
    cases h
    have hb1 : g.2.2.2.1 + 1 ≤ gI.2.2.2.1 + R.cells := hb.1
    have hb2 : g.2.2.2.2 + n.toNatClampNeg ≤ gI.2.2.2.2 + R.slots := hb.2
    have key : ∀ {ty : FieldType} (hty : newarray.typeOf t = ty) (hT : pm_ty (pm_aq t) = ty) (hq3 : pm_aq t = 8 ∨ pm_aq t = 9 ∨ pm_aq t = 10) (hw : Cond.arrayClass ty ∈ pm_TB) (hdef : defaultValue ty = .int 0) (hcb : componentBytes ty ≤ 8), pm_Go qv D A adI gI mi p l e R s m args below meth c Q (pc, lo, .int n :: r, g, iv) := by
      intro ty hty hT hq3 hw hdef hcb ad ca L H locs cells slots ls hag hpe hls hW hS hc hs
      have hc : cells + gI.2.2.2.1 = g.2.2.2.1 := hc
      have hs : slots + gI.2.2.2.2 = g.2.2.2.2 := hs
      have hmul : n.toNatClampNeg * componentBytes ty ≤ 1000000 * 8 := Nat.mul_le_mul hnm hcb
      refine va_newa (ty := ty) (N' := n.toNatClampNeg) (a0 := (n.toNatClampNeg, .inl (fun _ => 0))) hC.1 hC.2.1 (by rw [hty]; exact hC.2.2.2.2.1 _ hw) hty hC.2.2.2.2.2.2.1 hW.2.2.2.1 hW.2.2.2.2.1 hS hC.2.2.2.2.2.2.2.2.1 (fun cA => by rw [vp_cell_i, hdef]) hn0 rfl (by omega) (by omega) (by omega) hd (fun a cq H1 hK1 hP hD hS1 => ?_)
      refine pm_newG (a := a) (cq := cq) hC hI (pm_tl hI.2.1) hn hlt k hag hpe hls hW hc hs hP hD hS1 ?_ (fun _ => ⟨by omega, ?_⟩)
      · rw [pm_ee_i (q := pm_aq t) (n := n.toNatClampNeg) (by simp [pm_nc]) hq3]
        simp [pm_ir]
      · have := hK1.2 0 (cq, ty) rfl
        rw [hT]
        exact this
    cases t <;> first
      | exact key rfl rfl (Or.inl rfl) pm_w_arI rfl (by decide)
      | exact key rfl rfl (Or.inr (Or.inl rfl)) pm_w_arB rfl (by decide)
      | exact key rfl rfl (Or.inr (Or.inr rfl)) pm_w_arZ rfl (by decide)
      | exact absurd h8 (by decide)
  · cases h
theorem pm_g_ana {idx : Nat} (hC : pm_Cx X qv D A adI mi p R s m args meth c) (hI : pm_Iv (pc, lo, st, g, iv)) (hd : decode (pm_mb mi) pc = .ok (.anewarray idx, 3)) (h : pm_ana mi pc lo st g iv idx = some (.inl S')) (hb : S'.2.2.2.1.2.2.2.1 ≤ gI.2.2.2.1 + R.cells ∧ S'.2.2.2.1.2.2.2.2 ≤ gI.2.2.2.2 + R.slots) (k : pm_Go qv D A adI gI mi p l e R s m args below meth c Q S') : pm_Go qv D A adI gI mi p l e R s m args below meth c Q (pc, lo, st, g, iv) := by
  unfold pm_ana at h
  split at h
  · rename_i n r
    split at h
    · rename_i ci z hl
      obtain ⟨⟨hci, hn, hlt, hn0, hnm⟩, h⟩ := pm_ifn_inv h
      cases h
      intro ad ca L H locs cells slots ls hag hpe hls hW hS hc hs
      obtain ⟨hc7, hw⟩ := pm_lc_w hl
      have hw : Cond.classLink (pm_cn (pm_mc mi)) idx "HillHouses$Slope" ∈ pm_TB := by rw [hci] at hw; exact hw
      have hb1 : g.2.2.2.1 + 1 ≤ gI.2.2.2.1 + R.cells := hb.1
      have hb2 : g.2.2.2.2 + n.toNatClampNeg ≤ gI.2.2.2.2 + R.slots := hb.2
      have hc : cells + gI.2.2.2.1 = g.2.2.2.1 := hc
      have hs : slots + gI.2.2.2.2 = g.2.2.2.2 := hs
      refine va_newq (C := "HillHouses$Slope") (N' := n.toNatClampNeg) hC.1 hC.2.1 hC.2.2.2.1 (hC.2.2.2.2.1 _ hw) hC.2.2.2.2.2.2.2.1.2.2.2.2.2.2.2.2.2 hC.2.2.2.2.2.2.1 hW.2.2.2.1 hW.2.2.2.2.1 hS hC.2.2.2.2.2.2.2.2.1 hn0 rfl (by omega) (by omega) (by omega) hd (fun a cq H1 hK1 hP hD hS1 => ?_)
      refine pm_newG (a := a) (cq := cq) hC hI (pm_tl hI.2.1) hn hlt k hag hpe hls hW hc hs hP hD hS1 ?_ (fun _ => ⟨by omega, ?_⟩)
      · rw [pm_ee_r (n := n.toNatClampNeg) (by simp [pm_nc])]
        simp [pm_nc]
      · exact hK1.2 0 (cq, .object "HillHouses$Slope") rfl
    · cases h
  · cases h
end AL
end
section
/-! SOUNDNESS of the small machine: calls, and the whole of it -/
def pm_Pre (X : pm_X) (qv : Value) (D : va_G) (ad : Nat → Nat) (ca : Nat → ClassId) (L : List Nat) (g : pm_G) (iv : pm_V) (sz : Nat) : State → Prop := fun U => U.heap.size = sz ∧ pm_Wd D (va_A (L.map (pm_e ad ca g iv)) sz) ad ca L g iv U U.heap ∧ va_K D pm_cl [] U ∧ pm_Env X qv ad (va_A (L.map (pm_e ad ca g iv)) sz) U U.heap
def pm_Q (D : va_G) (A : Nat → Prop) (ad : Nat → Nat) (g : pm_G) (r : pm_R) : Array Value → State → Outcome → State → Prop := fun _ st oc t => ∃ (ad' : Nat → Nat) (ca' : Nat → ClassId) (L' : List Nat), oc = .returned r.1 ∧ (∀ k, g.1 k ≠ none ∨ 1000 ≤ k → ad' k = ad k) ∧ pm_Wd D A ad' ca' L' r.2.1 r.2.2 t t.heap ∧ va_F A st t
/-- the contract of a method at depth d: for each run of it in the small machine -/
def pm_Ct (X : pm_X) (l : Launch) (cal : pm_C) (d : Nat) : Prop := ∀ (t : Nat) (as : List Value) (g : pm_G) (iv : pm_V) (r : pm_R), t < pm_mt.length - 1 → cal t as g iv = some r → pm_okg g → (∀ w ∈ as, pm_okv g w) → ∀ (qv : Value) (D : va_G) (ad : Nat → Nat) (ca : Nat → ClassId) (L : List Nat) (sz : Nat), (qv = .null ∨ ∃ t, qv = .ref t) →
  Met l (pm_my t) (pm_ws t) (pm_rm d (r.2.1.2.2.2.1 - g.2.2.2.1) (r.2.1.2.2.2.2 - g.2.2.2.2)) (va_Pc (as.map (pm_cv ad qv)) (pm_Pre X qv D ad ca L g iv sz)) (pm_Q D (va_A (L.map (pm_e ad ca g iv)) sz) ad g r) (r.2.1.2.2.2.1 - g.2.2.2.1) (r.2.1.2.2.2.2 - g.2.2.2.2) (va_A (L.map (pm_e ad ca g iv)) sz)
theorem pm_blind {X : pm_X} {qv : Value} {D : va_G} {ad : Nat → Nat} {ca : Nat → ClassId} {L : List Nat} {g : pm_G} {iv : pm_V} {sz : Nat} {av : List Value} : FrameBlind (va_Pc av (pm_Pre X qv D ad ca L g iv sz)) := by
  intro a U fr mk h
  obtain ⟨h0, h1, h2, h3, h4⟩ := h
  refine ⟨h0, h1, ⟨h2.1, h2.2.1, h2.2.2.1, h2.2.2.2.1, h2.2.2.2.2.1, fun k q n hk h8 => ?_⟩, va_K.moved (u := U) (U := U.calling fr mk a) (Vm.Alike.refl U.vm) h3, pm_Env.blind a fr mk h4⟩
  obtain ⟨q1, q2, q3⟩ := h2.2.2.2.2.2 k q n hk h8
  exact ⟨q1, arrOfT_moved (u := U) (E := U.calling fr mk a) (Vm.Alike.refl U.vm) q2, va_RA.moved (u := U) (U := U.calling fr mk a) (Vm.Alike.refl U.vm) q3⟩
theorem pm_good {ws : List Cond} (h : ∀ w ∈ ws, w ∈ pm_TB) : GoodIn pm_TB ws := fun w hw => ⟨h w hw, good_of_word (List.mem_filter.mp (h w hw)).2⟩
theorem pm_ws_in {t : Nat} (h : pm_MOK t) : ∀ w ∈ pm_ws t, w ∈ pm_TB := fun w hw => (List.mem_cons.mp hw).elim (fun e => e ▸ h.1) id
section CL
variable {X : pm_X} {cal : pm_C} {qv : Value} {D : va_G} {A : Nat → Prop} {adI : Nat → Nat} {gI : pm_G} {mi : Nat} {p : Program} {l : Launch} {e : Env} {R : Room} {s : State} {m : MethodId} {args : Array Value} {below : List Frame} {meth : Method} {c : Code} {Q : State → Prop} {S' : pm_S} {pc d : Nat} {lo : List (Option Value)} {st : List Value} {g : pm_G} {iv : pm_V}
/-- the start of a callee holds where the caller stands -/
theorem pm_start (hC : pm_Cx X qv D A adI mi p R s m args meth c) {ad : Nat → Nat} {ca : Nat → ClassId} {L : List Nat} {H : Heap} {locs : List Loc} (hag : ∀ k, gI.1 k ≠ none ∨ 1000 ≤ k → ad k = adI k) (hW : pm_Wd D A ad ca L g iv s H) (hS : va_S A s.heap H locs) {U : State} (hU : U.heap = H) (hWm : s.WarmedH U.vm) : pm_Pre X qv D ad ca L g iv H.size U := by
  have hfree : ∀ q, va_A (L.map (pm_e ad ca g iv)) H.size q → A q := by
    intro q h
    rcases h with ⟨k, x, h⟩ | h
    · exact hW.2.2.2.2.1.2 k (q, x) h
    · exact hC.2.2.2.2.2.2.2.2.1 q (Nat.le_trans hS.1 h)
  refine ⟨by rw [hU], ⟨hW.1, hW.2.1, hW.2.2.1, by rw [hU]; exact hW.2.2.2.1, hW.2.2.2.2.1.self, fun k q n hk h8 => ?_⟩, va_K.moved hWm.alike hC.2.2.2.2.2.2.1, (pm_Env.adC hC hag).down hS hU hWm hfree⟩
  obtain ⟨q1, q2, q3⟩ := hW.2.2.2.2.2 k q n hk h8
  exact ⟨q1, arrOfT_moved hWm.alike q2, va_RA.moved hWm.alike q3⟩
/-- behind a call -/
theorem pm_callW (hC : pm_Cx X qv D A adI mi p R s m args meth c) (hck : pm_CK cal) {t : Nat} {as : List Value} {r : pm_R} (hcal : cal t as g iv = some r) (has : ∀ w ∈ as, pm_okv g w) {rest : List Value} (hrest : ∀ w ∈ rest, pm_okv g w) (hI : pm_Iv (pc, lo, st, g, iv)) (k : pm_Go qv D A adI gI mi p l e R s m args below meth c Q (pc + 3, lo, r.1.toList ++ rest, r.2.1, r.2.2))
    {ad : Nat → Nat} {ca : Nat → ClassId} {L : List Nat} {H : Heap} {locs : List Loc} {cells slots : Nat} {ls : Array Slot} (hag : ∀ k, gI.1 k ≠ none ∨ 1000 ≤ k → ad k = adI k) (hpe : ∀ k, gI.1 k ≠ none → g.1 k ≠ none) (hls : pm_Ls ad qv ls (pm_ml mi) lo) (hW : pm_Wd D A ad ca L g iv s H) (hS : va_S A s.heap H locs) (hc : cells + gI.2.2.2.1 = g.2.2.2.1) (hs : slots + gI.2.2.2.2 = g.2.2.2.2) {a : Array Value}
    (hr : va_Run p l e R s m args below meth c H locs cells slots (r.2.1.2.2.2.1 - g.2.2.2.1) (r.2.1.2.2.2.2 - g.2.2.2.2) (F0 m pc ls (st.map (pm_cv ad qv))) (rest.map (pm_cv ad qv)) (pm_Q D (va_A (L.map (pm_e ad ca g iv)) H.size) ad g r a) (va_A (L.map (pm_e ad ca g iv)) H.size)) : W p l e R s m args below meth c H locs cells slots Q (F0 m pc ls (st.map (pm_cv ad qv))) := by
  have hfree : ∀ q, va_A (L.map (pm_e ad ca g iv)) H.size q → A q := by
    intro q h
    rcases h with ⟨k, x, h⟩ | h
    · exact hW.2.2.2.2.1.2 k (q, x) h
    · exact hC.2.2.2.2.2.2.2.2.1 q (Nat.le_trans hS.1 h)
  obtain ⟨v, g', iv'⟩ := r
  obtain ⟨hg', hle, hv⟩ := hck _ _ _ _ _ _ _ hcal hI.1 has
  intro T hT X0
  obtain ⟨v0, st₀, t0, T', L0, h0, X', hL, e1, e2, ⟨ad', ca', L', hvv, hag', hW', hz, hk⟩, stp⟩ := hr T hT X0
  cases hvv
  rw [h0] at hz hk
  have hvm : s.vm.Alike t0.vm := by rw [← e2]; exact X'.warmed.alike
  have hagt : ∀ q, pm_okt g q → ad' q = ad q := fun q hq => hag' q hq
  have kk := k ad' ca' L' T'.heap (locs ++ L0) (cells + (g'.2.2.2.1 - g.2.2.2.1)) (slots + (g'.2.2.2.2 - g.2.2.2.2)) ls (fun j hj => (hag' j (hj.imp (hpe j) id)).trans (hag j hj)) (fun j hj => by show g'.1 j ≠ none; rw [hle.1 j (hpe j hj)]; exact hpe j hj) (pm_Ls_agree hagt hI.2.2 hls)
    ⟨hW'.1, hW'.2.1, hW'.2.2.1, by rw [e1]; exact hW'.2.2.2.1, hW'.2.2.2.2.1.weaken (fun _ q _ h => hfree q.1 h), fun j q n hj h8 => by
      obtain ⟨q1, q2, q3⟩ := hW'.2.2.2.2.2 j q n hj h8
      exact ⟨q1, arrOfT_moved hvm.symm q2, va_RA.moved hvm.symm q3⟩⟩
    ⟨Nat.le_trans hS.1 (by rw [e1]; exact hz), fun q h1 h2 => by rw [e1, hk q (Nat.lt_of_lt_of_le h1 hS.1) (fun z => h2 (hfree q z))]; exact hS.2.1 q h1 h2, fun q hq => by
      rcases List.mem_append.mp hq with h | h
      · exact hS.2.2 q h
      · exact hfree _ (hL q h)⟩
    (by have := hle.2.1; show _ = g'.2.2.2.1; omega) (by have := hle.2.2; show _ = g'.2.2.2.2; omega)
  have est : (v.toList ++ rest).map (pm_cv ad' qv) = v.toList ++ rest.map (pm_cv ad qv) := by
    rw [List.map_append, pm_st_agree hagt hrest]
    congr 1
    cases v with
    | none => rfl
    | some w => rcases hv w rfl with ⟨x, rfl⟩ | ⟨x, rfl⟩ <;> rfl
  have kk2 : W p l e R s m args below meth c T'.heap (locs ++ L0) (cells + (g'.2.2.2.1 - g.2.2.2.1)) (slots + (g'.2.2.2.2 - g.2.2.2.2)) Q (F0 m (pc + 3) ls (v.toList ++ rest.map (pm_cv ad qv))) := by
    rw [← est]
    exact kk
  obtain ⟨t2, a1, b1⟩ := kk2 T' rfl X'
  exact ⟨t2, stp t2 a1, b1⟩
theorem pm_bk_inv {rest : List Value} {q : Option pm_R} (h : pm_bk pc lo rest q = some (.inl S')) : ∃ r : pm_R, q = some r ∧ S' = (pc + 3, lo, r.1.toList ++ rest, r.2.1, r.2.2) := by
  unfold pm_bk at h
  split at h
  · cases h
    exact ⟨_, rfl, rfl⟩
  · cases h
theorem pm_fit {t : Nat} (h : pm_ml t ≤ 40) (hR : d + 1 ≤ R.frames ∧ 64 * (d + 1) ≤ R.locals) {mc ms : Nat} : (pm_rm d mc ms).frames + 1 ≤ R.frames ∧ 8 + (pm_ml t + 11) + (pm_rm d mc ms).locals ≤ R.locals := by
  refine ⟨hR.1, ?_⟩
  show 8 + (pm_ml t + 11) + 64 * d ≤ R.locals
  have := hR.2
  omega
theorem pm_take_drop {st : List Value} {n : Nat} {v : Value} {r : List Value} (h : st.drop n = v :: r) : (st.take n).length = n ∧ st = st.take n ++ v :: r := by
  refine ⟨?_, by rw [← h, List.take_append_drop]⟩
  rw [List.length_take]
  have : 0 < (st.drop n).length := by rw [h]; exact Nat.succ_pos _
  rw [List.length_drop] at this
  omega
theorem pm_g_inv {idx : Nat} (hC : pm_Cx X qv D A adI mi p R s m args meth c) (hck : pm_CK cal) (hct : pm_Ct X l cal d) (hR : d + 1 ≤ R.frames ∧ 64 * (d + 1) ≤ R.locals) (hI : pm_Iv (pc, lo, st, g, iv)) (hd : decode (pm_mb mi) pc = .ok (.invokevirtual idx, 3)) (h : pm_inv cal mi pc lo st g iv idx = some (.inl S')) (hb : S'.2.2.2.1.2.2.2.1 ≤ gI.2.2.2.1 + R.cells ∧ S'.2.2.2.1.2.2.2.2 ≤ gI.2.2.2.2 + R.slots) (k : pm_Go qv D A adI gI mi p l e R s m args below meth c Q S') : pm_Go qv D A adI gI mi p l e R s m args below meth c Q (pc, lo, st, g, iv) := by
  unfold pm_inv at h
  split at h
  · rename_i t n z hl
    split at h
    · rename_i b r he
      obtain ⟨⟨hcs, hrc⟩, h⟩ := pm_ifn_inv h
      obtain ⟨rr, hcal, rfl⟩ := pm_bk_inv h
      obtain ⟨ht, hk0, hlk, hpar⟩ := pm_lm_012 (by decide) hl
      have hM := pm_m_ok ht
      obtain ⟨hn, hst⟩ := pm_take_drop he
      have hdr := pm_drop (n := n) hI.2.1
      rw [he] at hdr
      have has : ∀ w ∈ Value.ref b :: (st.take n).reverse, pm_okv g w := pm_cns (hdr _ List.mem_cons_self) (pm_take hI.2.1)
      intro ad ca L H locs cells slots ls hag hpe hls hW hS hc hs
      have hq := (hC.2.2.2.2.2.2.2.1).2.2.2.2.1
      have hmet := hct t _ g iv rr ht hcal hI.1 has qv D ad ca L H.size hq
      have hle := (hck _ _ _ _ _ _ _ hcal hI.1 has).2.1
      have hc' : cells + gI.2.2.2.1 = g.2.2.2.1 := hc
      have hs' : slots + gI.2.2.2.2 = g.2.2.2.2 := hs
      have hb1 : rr.2.1.2.2.2.1 ≤ gI.2.2.2.1 + R.cells := hb.1
      have hb2 : rr.2.1.2.2.2.2 ≤ gI.2.2.2.2 + R.slots := hb.2
      have hl1 : g.2.2.2.1 ≤ rr.2.1.2.2.2.1 := hle.2.1
      have hl2 : g.2.2.2.2 ≤ rr.2.1.2.2.2.2 := hle.2.2
      have hin : Cond.instanceMethod (pm_my t) ∈ pm_TB := by have := hM.2.1; rw [hk0] at this; exact this
      have hwV : GoodIn pm_TB (wsV (pm_cn (pm_mc mi)) idx (pm_my t).cls (pm_my t) (pm_ws t)) := pm_good (by
        intro w hw
        simp only [wsV, List.cons_append, List.nil_append, List.mem_cons] at hw
        rcases hw with rfl | rfl | rfl | rfl | hw
        · exact hlk
        · exact hin
        · exact hM.2.2.2.1 hk0
        · exact hM.2.2.1
        · exact pm_ws_in hM w hw)
      have hrv : ∃ cellB : Cell, H[ad b]? = some cellB ∧ cellB.vm.isStatics = false ∧ s.vm.findClass (pm_my t).cls = some cellB.cls := by
        rcases hrc with ⟨hg1, h7⟩ | ⟨h10, hb1, hb2⟩
        · obtain ⟨j, hj, hj2⟩ := hW.at hg1
          rw [pm_ee_o hg1 (by omega)] at hj2
          rw [hM.2.2.2.2.1]
          exact va_recv hC.2.2.2.2.2.2.1 hW.2.2.2.1 (pm_cl_at _ h7) hj2
        · have hr1 : @LE.le Nat _ 1000 b := hb1
          have hr2 : @LT.lt Nat _ b 1008 := hb2
          obtain ⟨i, rfl⟩ := Nat.exists_eq_add_of_le hr1
          have hi8 : i < 8 := by omega
          rw [hM.2.2.2.2.1, h10]
          exact vk_recv (adK := fun i => ad (1000 + i)) (i := i) (pm_Env.adC hC hag).1 hi8 hS
      refine pm_callW hC hck hcal has (pm_tl hdr) hI k hag hpe hls hW hS hc hs (va_runV (As := ((st.take n).reverse).map (pm_cv ad qv)) (b := ad b) ⟨hC.1, hC.2.1, hC.2.2.1, hC.2.2.2.1, hC.2.2.2.2.1⟩ hmet (cwV n hC.2.2.2.2.1 hwV rfl rfl rfl ⟨rfl, hM.2.2.2.2.2.2.1.1, hM.2.2.2.2.2.2.1.2, hpar⟩ (pm_fit hM.2.2.2.2.2.2.2.1 hR)) ⟨pm_blind, hrv, fun U hU hWm => ⟨by simp [pm_cv], pm_start hC hag hW hS hU hWm⟩⟩ rfl (by rw [List.length_map, List.length_reverse]; exact hn) hls.1 ?_ (lv_room (by rw [pm_cs_map hq]; exact hcs)) hd ⟨by omega, by omega⟩)
      show st.map (pm_cv ad qv) = _
      conv => lhs; rw [hst]
      simp [pm_cv, List.map_reverse]
    · cases h
  · cases h
end CL
end
section
/-! SOUNDNESS of the small machine: static calls, constructors -/
section CL2
variable {X : pm_X} {cal : pm_C} {qv : Value} {D : va_G} {A : Nat → Prop} {adI : Nat → Nat} {gI : pm_G} {mi : Nat} {p : Program} {l : Launch} {e : Env} {R : Room} {s : State} {m : MethodId} {args : Array Value} {below : List Frame} {meth : Method} {c : Code} {Q : State → Prop} {S' : pm_S} {pc d : Nat} {lo : List (Option Value)} {st : List Value} {g : pm_G} {iv : pm_V}
theorem pm_g_ins {idx : Nat} (hC : pm_Cx X qv D A adI mi p R s m args meth c) (hck : pm_CK cal) (hct : pm_Ct X l cal d) (hR : d + 1 ≤ R.frames ∧ 64 * (d + 1) ≤ R.locals) (hI : pm_Iv (pc, lo, st, g, iv)) (hd : decode (pm_mb mi) pc = .ok (.invokestatic idx, 3)) (h : pm_ins cal mi pc lo st g iv idx = some (.inl S')) (hb : S'.2.2.2.1.2.2.2.1 ≤ gI.2.2.2.1 + R.cells ∧ S'.2.2.2.1.2.2.2.2 ≤ gI.2.2.2.2 + R.slots) (k : pm_Go qv D A adI gI mi p l e R s m args below meth c Q S') : pm_Go qv D A adI gI mi p l e R s m args below meth c Q (pc, lo, st, g, iv) := by
  have hq := (hC.2.2.2.2.2.2.2.1).2.2.2.2.1
  unfold pm_ins at h
  split at h
  · rename_i t n z hl
    obtain ⟨⟨hn, hcs⟩, h⟩ := pm_ifn_inv h
    obtain ⟨rr, hcal, rfl⟩ := pm_bk_inv h
    obtain ⟨ht, hk0, hlk, hpar⟩ := pm_lm_012 (by decide) hl
    have hM := pm_m_ok ht
    have has := pm_take (n := n) hI.2.1
    intro ad ca L H locs cells slots ls hag hpe hls hW hS hc hs
    have hmet := hct t _ g iv rr ht hcal hI.1 has qv D ad ca L H.size hq
    have hle := (hck _ _ _ _ _ _ _ hcal hI.1 has).2.1
    have hc' : cells + gI.2.2.2.1 = g.2.2.2.1 := hc
    have hs' : slots + gI.2.2.2.2 = g.2.2.2.2 := hs
    have hb1 : rr.2.1.2.2.2.1 ≤ gI.2.2.2.1 + R.cells := hb.1
    have hb2 : rr.2.1.2.2.2.2 ≤ gI.2.2.2.2 + R.slots := hb.2
    have hl1 : g.2.2.2.1 ≤ rr.2.1.2.2.2.1 := hle.2.1
    have hl2 : g.2.2.2.2 ≤ rr.2.1.2.2.2.2 := hle.2.2
    have hst : Cond.static (pm_my t) ∈ pm_TB := by have := hM.2.1; rw [hk0] at this; exact this
    have hwS : GoodIn pm_TB (va_wsS (pm_cn (pm_mc mi)) idx (pm_my t) (pm_ws t)) := pm_good (by
      intro w hw
      simp only [va_wsS, List.cons_append, List.nil_append, List.mem_cons] at hw
      rcases hw with rfl | rfl | rfl | hw
      · exact hlk
      · exact hst
      · exact hM.2.2.1
      · exact pm_ws_in hM w hw)
    refine pm_callW hC hck hcal has (pm_drop hI.2.1) hI k hag hpe hls hW hS hc hs (va_runS (As := ((st.take n).reverse).map (pm_cv ad qv)) ⟨hC.1, hC.2.1, hC.2.2.1, hC.2.2.2.1, hC.2.2.2.2.1⟩ hmet (va_cwS n hC.2.2.2.2.1 hwS rfl rfl rfl ⟨hM.2.2.2.2.2.2.1.1, hM.2.2.2.2.2.2.1.2, hpar⟩ (pm_fit hM.2.2.2.2.2.2.2.1 hR)) ⟨pm_blind, fun U hU hWm => ⟨rfl, pm_start hC hag hW hS hU hWm⟩⟩ rfl (by rw [List.length_map, List.length_reverse, List.length_take]; omega) hls.1 ?_ (lv_room (by rw [pm_cs_map hq]; exact hcs)) hd ⟨by omega, by omega⟩)
    show st.map (pm_cv ad qv) = _
    rw [← List.map_reverse, List.reverse_reverse, ← List.map_append, List.take_append_drop]
  · rename_i t n z hl
    obtain ⟨⟨hn, hcs⟩, h⟩ := pm_ifn_inv h
    obtain ⟨rr, hcal, rfl⟩ := pm_bk_inv h
    obtain ⟨ht, hk0, ⟨host, hnest⟩, hpar⟩ := pm_lm_34 (Or.inl rfl) hl
    have hM := pm_m_ok ht
    have has := pm_take (n := n) hI.2.1
    intro ad ca L H locs cells slots ls hag hpe hls hW hS hc hs
    have hmet := hct t _ g iv rr ht hcal hI.1 has qv D ad ca L H.size hq
    have hle := (hck _ _ _ _ _ _ _ hcal hI.1 has).2.1
    have hc' : cells + gI.2.2.2.1 = g.2.2.2.1 := hc
    have hs' : slots + gI.2.2.2.2 = g.2.2.2.2 := hs
    have hb1 : rr.2.1.2.2.2.1 ≤ gI.2.2.2.1 + R.cells := hb.1
    have hb2 : rr.2.1.2.2.2.2 ≤ gI.2.2.2.2 + R.slots := hb.2
    have hl1 : g.2.2.2.1 ≤ rr.2.1.2.2.2.1 := hle.2.1
    have hl2 : g.2.2.2.2 ≤ rr.2.1.2.2.2.2 := hle.2.2
    have hst : Cond.static (pm_my t) ∈ pm_TB := by have := hM.2.1; rw [hk0] at this; exact this
    have hnw := (pm_Env.adC hC hag).2.2.2.2.2.2.1 _ hnest
    refine pm_callW hC hck hcal has (pm_drop hI.2.1) hI k hag hpe hls hW hS hc hs (va_runSN (As := ((st.take n).reverse).map (pm_cv ad qv)) ⟨hC.1, hC.2.1, hC.2.2.1, hC.2.2.2.1, hC.2.2.2.2.1⟩ hmet ⟨va_cnB n hC.2.2.2.2.1 (pm_good (pm_ws_in hM)) rfl rfl rfl hnw (hC.2.2.2.2.1 _ hM.2.2.1) ⟨hM.2.2.2.2.2.2.1.1, hM.2.2.2.2.2.2.1.2, hpar⟩ (pm_fit hM.2.2.2.2.2.2.2.1 hR), hC.2.2.2.2.1 _ hst, trivial⟩ ⟨pm_blind, fun U hU hWm => ⟨rfl, pm_start hC hag hW hS hU hWm⟩⟩ rfl (by rw [List.length_map, List.length_reverse, List.length_take]; omega) hls.1 ?_ (lv_room (by rw [pm_cs_map hq]; exact hcs)) hd ⟨by omega, by omega⟩)
    show st.map (pm_cv ad qv) = _
    rw [← List.map_reverse, List.reverse_reverse, ← List.map_append, List.take_append_drop]
  · rename_i t n' z hl
    split at h
    · rename_i n dp a sp a0 r
      split at h
      · rename_i q0 n0 q1 n1 hk0 hk1
        obtain ⟨⟨hcs, h0, h1, h2, h3, h4, h5, h6⟩, hh⟩ := pm_ifn_inv h
        subst h0
        subst h1
        cases hh
        intro ad ca L H locs cells slots ls hag hpe hls hW hS hc hs
        obtain ⟨j0, hj0, hj02⟩ := hW.at hk0
        obtain ⟨j1, hj1, hj12⟩ := hW.at hk1
        rw [pm_ee_i hk0 (Or.inl rfl)] at hj02
        rw [pm_ee_i hk1 (Or.inl rfl)] at hj12
        have hK2 : va_K D pm_cl [(ca a0, .int), (ca a, .int)] s := by
          refine ⟨hC.2.2.2.2.2.2.1.1, fun k x hx => ?_⟩
          match k, hx with
          | 0, hx => cases hx; exact (hW.2.2.2.2.2 a0 8 n0 hk0 (by decide)).2
          | 1, hx => cases hx; exact (hW.2.2.2.2.2 a 8 n1 hk1 (by decide)).2
          | k + 2, hx => simp at hx
        have hx : (.inl (ca a, n1, .inl (va_cpy (iv a0) (iv a) sp.toNatClampNeg dp.toNatClampNeg n.toNatClampNeg)) : va_E) = pm_ee ad ca g (pm_ir iv a (va_cpy (iv a0) (iv a) sp.toNatClampNeg dp.toNatClampNeg n.toNatClampNeg)) a := by
          rw [pm_ee_i hk1 (Or.inl rfl)]
          simp [pm_ir]
        have ho : ∀ z ∈ L, z ≠ a → pm_ee ad ca g (pm_ir iv a (va_cpy (iv a0) (iv a) sp.toNatClampNeg dp.toNatClampNeg n.toNatClampNeg)) z = pm_ee ad ca g iv z := by
          intro z _ hz
          unfold pm_ee pm_ov
          simp [pm_ir, hz]
        have hcs2 : ((r.map (pm_cv ad qv)).map fun v => v.category).sum ≤ 8 := by rw [pm_cs_map hq]; exact hcs
        exact va_copyi (ty := .int) hC.1 hC.2.1 (by rw [hls.1]; exact hC.2.2.1) hC.2.2.2.1 (hC.2.2.2.2.1 _ (pm_lm_6 hl)) (hC.2.2.2.2.1 _ pm_w_cp1) (hC.2.2.2.2.1 _ pm_w_cp2) (hC.2.2.2.2.1 _ pm_w_cp3) hK2 hW.2.2.2.1 hW.2.2.2.2.1 hS j0 j1 0 1 hj02 hj12 rfl rfl rfl h2 h3 h4 h5 h6 (fun _ _ => rfl) (by omega)
          (by have := hR.2; have e9 : nativeFrameWords "java/lang/System" "arraycopy" 5 ≤ 20 := by decide +kernel
              omega) hd (fun H1 locs1 a1 a2 a3 => k ad ca L H1 locs1 cells slots ls hag hpe hls (hW.upd rfl hj1 hx ho a1 a2) a3 hc hs)
      · cases h
    · cases h
  · rename_i t n' z hl
    split at h
    · rename_i y x r
      obtain ⟨hcs, hh⟩ := pm_ifn_inv h
      cases hh
      intro ad ca L H locs cells slots ls hag hpe hls hW hS hc hs
      have hcs2 : ((r.map (pm_cv ad qv)).map fun v => v.category).sum ≤ 8 := by rw [pm_cs_map hq]; exact hcs
      have hb1 : g.2.2.2.1 ≤ gI.2.2.2.1 + R.cells := hb.1
      have hb2 : g.2.2.2.2 ≤ gI.2.2.2.2 + R.slots := hb.2
      have hc' : cells + gI.2.2.2.1 = g.2.2.2.1 := hc
      have hs' : slots + gI.2.2.2.2 = g.2.2.2.2 := hs
      exact va_mmin hC.1 hC.2.1 (by rw [hls.1]; exact hC.2.2.1) hC.2.2.2.1 (hC.2.2.2.2.1 _ (pm_lm_7 hl)) (hC.2.2.2.2.1 _ pm_w_min) (hC.2.2.2.2.1 _ pm_w_math) (hC.2.2.2.2.1 _ (pm_has_mem pm_minW)) (by omega) (by have := hR.2; omega) (by omega) (by omega) hd (k ad ca L H locs cells slots ls hag hpe hls hW hS hc hs)
    · cases h
  · rename_i t n' z hl
    split at h
    · rename_i x r
      obtain ⟨hcs, hh⟩ := pm_ifn_inv h
      cases hh
      intro ad ca L H locs cells slots ls hag hpe hls hW hS hc hs
      have hcs2 : ((r.map (pm_cv ad qv)).map fun v => v.category).sum ≤ 8 := by rw [pm_cs_map hq]; exact hcs
      have hb1 : g.2.2.2.1 ≤ gI.2.2.2.1 + R.cells := hb.1
      have hb2 : g.2.2.2.2 ≤ gI.2.2.2.2 + R.slots := hb.2
      have hc' : cells + gI.2.2.2.1 = g.2.2.2.1 := hc
      have hs' : slots + gI.2.2.2.2 = g.2.2.2.2 := hs
      exact va_mabs hC.1 hC.2.1 (by rw [hls.1]; exact hC.2.2.1) hC.2.2.2.1 (hC.2.2.2.2.1 _ (pm_lm_8 hl)) (hC.2.2.2.2.1 _ pm_w_abs) (hC.2.2.2.2.1 _ pm_w_math) (hC.2.2.2.2.1 _ (pm_has_mem pm_absW)) (by omega) (by have := hR.2; omega) (by omega) (by omega) hd (k ad ca L H locs cells slots ls hag hpe hls hW hS hc hs)
    · cases h
  · cases h
theorem pm_g_isp {idx : Nat} (hC : pm_Cx X qv D A adI mi p R s m args meth c) (hck : pm_CK cal) (hct : pm_Ct X l cal d) (hR : d + 1 ≤ R.frames ∧ 64 * (d + 1) ≤ R.locals) (hI : pm_Iv (pc, lo, st, g, iv)) (hd : decode (pm_mb mi) pc = .ok (.invokespecial idx, 3)) (h : pm_isp cal mi pc lo st g iv idx = some (.inl S')) (hb : S'.2.2.2.1.2.2.2.1 ≤ gI.2.2.2.1 + R.cells ∧ S'.2.2.2.1.2.2.2.2 ≤ gI.2.2.2.2 + R.slots) (k : pm_Go qv D A adI gI mi p l e R s m args below meth c Q S') : pm_Go qv D A adI gI mi p l e R s m args below meth c Q (pc, lo, st, g, iv) := by
  have hq := (hC.2.2.2.2.2.2.2.1).2.2.2.2.1
  have key : ∀ {t n : Nat} {b : Addr} {r : List Value} {rr : pm_R}, t < pm_mt.length - 1 → pm_mk t = 2 → st.drop n = .ref b :: r → pm_cs r ≤ 8 → cal t (.ref b :: (st.take n).reverse) g iv = some rr → S' = (pc + 3, lo, rr.1.toList ++ r, rr.2.1, rr.2.2) → (parseMethodDescriptor (pm_my t).desc).map (fun d => d.parameters.length) = some n →
      (Cond.methodLink (pm_cn (pm_mc mi)) idx (pm_my t) ∈ pm_TB ∨ ∃ host, (pm_cn (pm_mc mi), idx, pm_my t, host) ∈ pm_nst) → pm_Go qv D A adI gI mi p l e R s m args below meth c Q (pc, lo, st, g, iv) := by
    intro t n b r rr ht hk0 he hcs hcal hS' hpar hlink
    subst hS'
    have hM := pm_m_ok ht
    obtain ⟨hn, hst⟩ := pm_take_drop he
    have hdr := pm_drop (n := n) hI.2.1
    rw [he] at hdr
    have has : ∀ w ∈ Value.ref b :: (st.take n).reverse, pm_okv g w := pm_cns (hdr _ List.mem_cons_self) (pm_take hI.2.1)
    intro ad ca L H locs cells slots ls hag hpe hls hW hS hc hs
    have hmet := hct t _ g iv rr ht hcal hI.1 has qv D ad ca L H.size hq
    have hle := (hck _ _ _ _ _ _ _ hcal hI.1 has).2.1
    have hc' : cells + gI.2.2.2.1 = g.2.2.2.1 := hc
    have hs' : slots + gI.2.2.2.2 = g.2.2.2.2 := hs
    have hb1 : rr.2.1.2.2.2.1 ≤ gI.2.2.2.1 + R.cells := hb.1
    have hb2 : rr.2.1.2.2.2.2 ≤ gI.2.2.2.2 + R.slots := hb.2
    have hl1 : g.2.2.2.1 ≤ rr.2.1.2.2.2.1 := hle.2.1
    have hl2 : g.2.2.2.2 ≤ rr.2.1.2.2.2.2 := hle.2.2
    have hin : Cond.instanceMethod (pm_my t) ∈ pm_TB := by have := hM.2.1; rw [hk0] at this; exact this
    obtain ⟨hini, hret⟩ := hM.2.2.2.2.2.2.2.2 hk0
    have hws : pm_ws t = Cond.code (pm_my t) (pm_mb t) (pm_ml t) none :: pm_TB := by unfold pm_ws; rw [hret]
    have hstk : st.map (pm_cv ad qv) = (((st.take n).reverse).map (pm_cv ad qv)).reverse ++ .ref (ad b) :: r.map (pm_cv ad qv) := by
      conv => lhs; rw [hst]
      simp [pm_cv, List.map_reverse]
    have hPS : PreS s H (va_Pc ((Value.ref b :: (st.take n).reverse).map (pm_cv ad qv)) (pm_Pre X qv D ad ca L g iv H.size)) (.ref (ad b) :: ((st.take n).reverse).map (pm_cv ad qv)) := ⟨pm_blind, fun U hU hWm => ⟨rfl, pm_start hC hag hW hS hU hWm⟩⟩
    rcases hlink with hlk | ⟨host, hnest⟩
    · exact pm_callW hC hck hcal has (pm_tl hdr) hI k hag hpe hls hW hS hc hs (va_runI (As := ((st.take n).reverse).map (pm_cv ad qv)) (b := ad b) ⟨hC.1, hC.2.1, hC.2.2.1, hC.2.2.2.1, hC.2.2.2.2.1⟩ hmet (cwI n hC.2.2.2.2.1 (pm_good (pm_ws_in hM)) hws rfl rfl (hC.2.2.2.2.1 _ hM.2.2.1) (hC.2.2.2.2.1 _ hlk) (hC.2.2.2.2.1 _ hin) hini ⟨hM.2.2.2.2.2.2.1.1, hM.2.2.2.2.2.2.1.2, hpar⟩ (pm_fit hM.2.2.2.2.2.2.2.1 hR)) hPS rfl (by rw [List.length_map, List.length_reverse]; exact hn) hls.1 hstk (lv_room (by rw [pm_cs_map hq]; exact hcs)) hd ⟨by omega, by omega⟩)
    · have hnw := (pm_Env.adC hC hag).2.2.2.2.2.2.1 _ hnest
      exact pm_callW hC hck hcal has (pm_tl hdr) hI k hag hpe hls hW hS hc hs (va_runIN (As := ((st.take n).reverse).map (pm_cv ad qv)) (b := ad b) ⟨hC.1, hC.2.1, hC.2.2.1, hC.2.2.2.1, hC.2.2.2.2.1⟩ hmet ⟨va_cnB n hC.2.2.2.2.1 (pm_good (pm_ws_in hM)) hws rfl rfl hnw (hC.2.2.2.2.1 _ hM.2.2.1) ⟨hM.2.2.2.2.2.2.1.1, hM.2.2.2.2.2.2.1.2, hpar⟩ (pm_fit hM.2.2.2.2.2.2.2.1 hR), hini, hC.2.2.2.2.1 _ hin⟩ hPS rfl (by rw [List.length_map, List.length_reverse]; exact hn) hls.1 hstk (lv_room (by rw [pm_cs_map hq]; exact hcs)) hd ⟨by omega, by omega⟩)
  unfold pm_isp at h
  split at h
  · rename_i t n z hl
    split at h
    · rename_i b r he
      obtain ⟨hcs, h⟩ := pm_ifn_inv h
      obtain ⟨rr, hcal, hS'⟩ := pm_bk_inv h
      obtain ⟨ht, hk0, hlk, hpar⟩ := pm_lm_012 (by decide) hl
      exact key ht hk0 he hcs hcal hS' hpar (Or.inl hlk)
    · cases h
  · rename_i t n z hl
    split at h
    · rename_i b r he
      obtain ⟨hcs, h⟩ := pm_ifn_inv h
      obtain ⟨rr, hcal, hS'⟩ := pm_bk_inv h
      obtain ⟨ht, hk0, hlk, hpar⟩ := pm_lm_34 (Or.inr rfl) hl
      exact key ht hk0 he hcs hcal hS' hpar (Or.inr hlk)
    · cases h
  · rename_i t n z hl
    split at h
    · rename_i b r
      obtain ⟨hcs, hh⟩ := pm_ifn_inv h
      cases hh
      intro ad ca L H locs cells slots ls hag hpe hls hW hS hc hs
      have hcs2 : ((r.map (pm_cv ad qv)).map fun v => v.category).sum ≤ 8 := by rw [pm_cs_map hq]; exact hcs
      refine W.objInit hC.1 hC.2.1 hC.2.2.2.1 (hC.2.2.2.2.1 _ (pm_lm_5 hl)) (hC.2.2.2.2.1 _ pm_w_obj1) (hC.2.2.2.2.1 _ pm_w_obj2) rfl (by rw [hC.2.2.1]; exact hls.1) rfl hd (by omega) ?_ (k ad ca L H locs cells slots ls hag hpe hls hW hS hc hs)
      have := hR.2
      show 2 * (F0 m pc ls _).monitorRoom + _ + 12 ≤ R.locals
      have h0 : (F0 m pc ls ((Value.ref b :: r).map (pm_cv ad qv))).monitorRoom = 0 := rfl
      rw [h0]
      omega
    · cases h
  · cases h
end CL2
end
section
/-! SOUNDNESS of the small machine: the whole of it -/
section SN
variable {X : pm_X} {cal : pm_C} {qv : Value} {D : va_G} {A : Nat → Prop} {adI : Nat → Nat} {gI : pm_G} {mi : Nat} {p : Program} {l : Launch} {e : Env} {R : Room} {s : State} {m : MethodId} {args : Array Value} {below : List Frame} {meth : Method} {c : Code} {Q : State → Prop} {d : Nat}
theorem pm_hd {b : ByteArray} {pc len n : Nat} {ins : Instr} (hd : decode b pc = .ok (ins, len)) (hl : pm_len ins = some len ∨ pm_len ins = none) (h : pm_len ins = some n) : decode b pc = .ok (ins, n) := by
  rcases hl with q | q
  · rw [q] at h
    cases h
    exact hd
  · rw [q] at h
    cases h
theorem pm_g_ifC {S' : pm_S} {pc : Nat} {lo : List (Option Value)} {st : List Value} {g : pm_G} {iv : pm_V} {cd : ClassFile.Cond} {off : Int} (hC : pm_Cx X qv D A adI mi p R s m args meth c) (hd : decode (pm_mb mi) pc = .ok (.ifCond cd off, 3)) (h : pm_br1 pc lo st g iv (pm_cd1 cd) off = some (.inl S')) (k : pm_Go qv D A adI gI mi p l e R s m args below meth c Q S') : pm_Go qv D A adI gI mi p l e R s m args below meth c Q (pc, lo, st, g, iv) := by
  cases cd
  · exact pm_g_if_eq hC hd h k
  · exact pm_g_if_ne hC hd h k
  · exact pm_g_if_lt hC hd h k
  · exact pm_g_if_ge hC hd h k
  · exact pm_g_if_gt hC hd h k
  · exact pm_g_if_le hC hd h k
theorem pm_g_icC {S' : pm_S} {pc : Nat} {lo : List (Option Value)} {st : List Value} {g : pm_G} {iv : pm_V} {cd : ClassFile.Cond} {off : Int} (hC : pm_Cx X qv D A adI mi p R s m args meth c) (hd : decode (pm_mb mi) pc = .ok (.if_icmp cd off, 3)) (h : pm_br2 pc lo st g iv (pm_cd2 cd) off = some (.inl S')) (k : pm_Go qv D A adI gI mi p l e R s m args below meth c Q S') : pm_Go qv D A adI gI mi p l e R s m args below meth c Q (pc, lo, st, g, iv) := by
  cases cd
  · exact pm_g_icmp_eq hC hd h k
  · exact pm_g_icmp_ne hC hd h k
  · exact pm_g_icmp_lt hC hd h k
  · exact pm_g_icmp_ge hC hd h k
  · exact pm_g_icmp_gt hC hd h k
  · exact pm_g_icmp_le hC hd h k
theorem pm_step {S S' : pm_S} (hC : pm_Cx X qv D A adI mi p R s m args meth c) (hck : pm_CK cal) (hct : pm_Ct X l cal d) (hR : d + 1 ≤ R.frames ∧ 64 * (d + 1) ≤ R.locals) (hI : pm_Iv S) (h : pm_n X cal mi S = some (.inl S')) (hb : S'.2.2.2.1.2.2.2.1 ≤ gI.2.2.2.1 + R.cells ∧ S'.2.2.2.1.2.2.2.2 ≤ gI.2.2.2.2 + R.slots) (k : pm_Go qv D A adI gI mi p l e R s m args below meth c Q S') : pm_Go qv D A adI gI mi p l e R s m args below meth c Q S := by
  obtain ⟨pc, lo, st, g, iv⟩ := S
  unfold pm_n at h
  split at h
  · rename_i ins len hd
    split at h
    · rename_i hl
      have hd : decode (pm_mb mi) pc = .ok (ins, len) := hd
      have h : pm_i X cal mi pc lo st g iv ins = some (.inl S') := h
      unfold pm_i at h
      split at h
      any_goals first
        | exact pm_g_iconst hC (pm_hd hd hl rfl) h k
        | exact pm_g_bipush hC (pm_hd hd hl rfl) h k
        | exact pm_g_sipush hC (pm_hd hd hl rfl) h k
        | exact pm_g_lconst hC (pm_hd hd hl rfl) h k
        | exact pm_g_iload_n hC (pm_hd hd hl rfl) h k
        | exact pm_g_iload hC (pm_hd hd hl rfl) h k
        | exact pm_g_lload_n hC (pm_hd hd hl rfl) h k
        | exact pm_g_lload hC (pm_hd hd hl rfl) h k
        | exact pm_g_aload_n hC (pm_hd hd hl rfl) h k
        | exact pm_g_istore_n hC (pm_hd hd hl rfl) h k
        | exact pm_g_istore hC (pm_hd hd hl rfl) h k
        | exact pm_g_astore_n hC (pm_hd hd hl rfl) h k
        | exact pm_g_lstore_n hC (pm_hd hd hl rfl) h k
        | exact pm_g_iinc hC (pm_hd hd hl rfl) h k
        | exact pm_g_iadd hC (pm_hd hd hl rfl) h k
        | exact pm_g_isub hC (pm_hd hd hl rfl) h k
        | exact pm_g_imul hC (pm_hd hd hl rfl) h k
        | exact pm_g_iand hC (pm_hd hd hl rfl) h k
        | exact pm_g_ior hC (pm_hd hd hl rfl) h k
        | exact pm_g_ixor hC (pm_hd hd hl rfl) h k
        | exact pm_g_ishl hC (pm_hd hd hl rfl) h k
        | exact pm_g_ishr hC (pm_hd hd hl rfl) h k
        | exact pm_g_iushr hC (pm_hd hd hl rfl) h k
        | exact pm_g_idiv hC (pm_hd hd hl rfl) h k
        | exact pm_g_irem hC (pm_hd hd hl rfl) h k
        | exact pm_g_ineg hC (pm_hd hd hl rfl) h k
        | exact pm_g_i2b hC (pm_hd hd hl rfl) h k
        | exact pm_g_i2s hC (pm_hd hd hl rfl) h k
        | exact pm_g_i2c hC (pm_hd hd hl rfl) h k
        | exact pm_g_i2l hC (pm_hd hd hl rfl) h k
        | exact pm_g_l2i hC (pm_hd hd hl rfl) h k
        | exact pm_g_ladd hC (pm_hd hd hl rfl) h k
        | exact pm_g_land hC (pm_hd hd hl rfl) h k
        | exact pm_g_lor hC (pm_hd hd hl rfl) h k
        | exact pm_g_lshl hC (pm_hd hd hl rfl) h k
        | exact pm_g_lshr hC (pm_hd hd hl rfl) h k
        | exact pm_g_lcmp hC (pm_hd hd hl rfl) h k
        | exact pm_g_dup hC (pm_hd hd hl rfl) h k
        | exact pm_g_dup2 hC (pm_hd hd hl rfl) h k
        | exact pm_g_pop hC (pm_hd hd hl rfl) h k
        | exact pm_g_goto hC (pm_hd hd hl rfl) h k
        | exact pm_g_ifC hC (pm_hd hd hl rfl) h k
        | exact pm_g_icC hC (pm_hd hd hl rfl) h k
        | exact pm_g_nn hC (pm_hd hd hl rfl) h k
        | exact pm_g_tsw hC hd h k
        | exact pm_g_lsw hC hd h k
        | exact pm_g_gf hC (pm_hd hd hl rfl) h k
        | exact pm_g_pf hC (pm_hd hd hl rfl) h k
        | exact pm_g_gs hC (pm_hd hd hl rfl) h k
        | exact pm_g_aln hC (pm_hd hd hl rfl) h k
        | exact pm_g_ald (b := true) hC (pm_hd hd hl rfl) h k
        | exact pm_g_ald (b := false) hC (pm_hd hd hl rfl) h k
        | exact pm_g_ast (b := true) hC (pm_hd hd hl rfl) h k
        | exact pm_g_ast (b := false) hC (pm_hd hd hl rfl) h k
        | exact pm_g_aal hC (pm_hd hd hl rfl) h k
        | exact pm_g_aas hC (pm_hd hd hl rfl) h k
        | exact pm_g_new hC hI (pm_hd hd hl rfl) h hb k
        | exact pm_g_nwa hC hI (pm_hd hd hl rfl) h hb k
        | exact pm_g_ana hC hI (pm_hd hd hl rfl) h hb k
        | exact pm_g_kI3 hC (pm_hd hd hl rfl) h k
        | exact pm_g_kL hC (pm_hd hd hl rfl) h k
        | exact pm_g_inv hC hck hct hR hI (pm_hd hd hl rfl) h hb k
        | exact pm_g_ins hC hck hct hR hI (pm_hd hd hl rfl) h hb k
        | exact pm_g_isp hC hck hct hR hI (pm_hd hd hl rfl) h hb k
        | exact (pm_ri_no h).elim
        | exact (pm_rl_no h).elim
        | exact (pm_rv_no h).elim
        | (cases h; done)
      · split at h
        · exact pm_g_kI2 hC (pm_hd hd hl rfl) h k
        · exact pm_g_kS hC (pm_hd hd hl rfl) h k
    · cases h
  · cases h
/-- a run from a place, its end given -/
theorem pm_run {rF : pm_R} (hC : pm_Cx X qv D A adI mi p R s m args meth c) (hck : pm_CK cal) (hct : pm_Ct X l cal d) (hR : d + 1 ≤ R.frames ∧ 64 * (d + 1) ≤ R.locals) (hb : rF.2.1.2.2.2.1 ≤ gI.2.2.2.1 + R.cells ∧ rF.2.1.2.2.2.2 ≤ gI.2.2.2.2 + R.slots)
    (hend : ∀ S, pm_n X cal mi S = some (.inr rF) → pm_Go qv D A adI gI mi p l e R s m args below meth c Q S) : ∀ (n : Nat) (S : pm_S), pm_x X cal mi n S = some rF → pm_Iv S → pm_Go qv D A adI gI mi p l e R s m args below meth c Q S := by
  intro n
  induction n with
  | zero => intro S h; cases h
  | succ n ih =>
    intro S h hI
    simp only [pm_x] at h
    split at h
    · cases h
    · rename_i S1 he
      obtain ⟨h1, h2⟩ := pm_v_n hck he hI
      obtain ⟨-, h3, -⟩ := pm_v_x hck h h1
      exact pm_step hC hck hct hR hI he ⟨Nat.le_trans h3.2.1 hb.1, Nat.le_trans h3.2.2 hb.2⟩ (ih S1 h h1)
    · rename_i r he
      cases h
      exact hend S he
theorem pm_snd : ∀ d : Nat, pm_Ct X l (pm_c X d) d := by
  intro d
  induction d with
  | zero => intro t as g iv r ht h; cases h
  | succ d ih =>
    intro t as g iv r ht h hg has qv D ad ca L sz hq
    have hM := pm_m_ok ht
    have hlen : (pm_ea as).length ≤ pm_ml t := by
      by_cases hl : (pm_ea as).length ≤ pm_ml t
      · exact hl
      · exact absurd h (by show (if (pm_ea as).length ≤ pm_ml t then _ else none) ≠ _; rw [if_neg hl]; exact fun e => by cases e)
    rw [pm_c_at hlen] at h
    obtain ⟨n, hn⟩ := pm_at_ex h
    have hIv := pm_iv_en (iv := iv) (n := pm_ml t) hg has
    have hle := (pm_v_x (pm_c_ck d) hn hIv).2.1
    refine Met.ofW (cc := pm_mb t) (maxL := pm_ml t) (ret := pm_mr t) hM.2.2.2.2.2.1 rfl ?_
    intro p e s m args below meth c s₁ B hml hv
    obtain ⟨rfl, hsz, hW, hK, hE⟩ := hv
    have hts0 := atoms_spec (ws := pm_ws t) B.pre
    have hown : s.vm.findClass (pm_my t).cls = some m.cls := findClass_of_methodNamed B.named
    rw [hM.2.2.2.2.1] at hown
    have hnm : meth.name = (pm_my t).name := (name_of_methodNamed B.named B.method).1
    have hC : pm_Cx X qv D (va_A (L.map (pm_e ad ca g iv)) sz) ad t p (headSpec (pm_ws t) (pm_rm (d + 1) (r.2.1.2.2.2.1 - g.2.2.2.1) (r.2.1.2.2.2.2 - g.2.2.2.2))).room s m ((as.map (pm_cv ad qv)).toArray) meth c :=
      ⟨B.exec, B.bytes, hml, hown, fun w hw => hts0 w (List.mem_cons_of_mem _ hw), fun hk => by rw [hnm]; exact (hM.2.2.2.2.2.2.2.2 hk).1, hK, hE, fun q hq => Or.inr (by rw [← hsz]; exact hq), by show 64 ≤ 64 * (d + 1); omega, by show 1 ≤ d + 1; omega⟩
    have hlocks := B.notSynchronized
    have hr := B.returns
    have hl1 : g.2.2.2.1 ≤ r.2.1.2.2.2.1 := hle.2.1
    have hl2 : g.2.2.2.2 ≤ r.2.1.2.2.2.2 := hle.2.2
    have run := pm_run (X := X) (Q := MQ below (pm_Q D (va_A (L.map (pm_e ad ca g iv)) sz) ad g r) ((as.map (pm_cv ad qv)).toArray) s (r.2.1.2.2.2.1 - g.2.2.2.1) (r.2.1.2.2.2.2 - g.2.2.2.2) (va_A (L.map (pm_e ad ca g iv)) sz)) (gI := g) (e := e) (below := below) hC (pm_c_ck d) ih ⟨Nat.le_refl _, Nat.le_refl _⟩ ⟨by show r.2.1.2.2.2.1 ≤ g.2.2.2.1 + (r.2.1.2.2.2.1 - g.2.2.2.1); omega, by show r.2.1.2.2.2.2 ≤ g.2.2.2.2 + (r.2.1.2.2.2.2 - g.2.2.2.2); omega⟩ ?_ n _ hn hIv ad ca L s.heap [] 0 0
    · have hl := pm_entry (ad := ad) hq as hlen
      rw [lg_entry_eq]
      exact run _ (fun _ _ => rfl) (fun _ h => h) hl ⟨hW.1, hW.2.1, hW.2.2.1, hW.2.2.2.1, hW.2.2.2.2.1, hW.2.2.2.2.2⟩ va_S.rf (Nat.zero_add _) (Nat.zero_add _)
    · intro S hS
      intro ad' ca' L' H locs cells slots ls hag hpe hls hW' hS' hc hs
      rcases pm_n_end hS with ⟨x, h1, ⟨ty, h2, h3⟩, rfl, h4⟩ | ⟨x, h1, h2, rfl, h4⟩ | ⟨h1, h2, rfl, h4⟩
      · rw [h1]
        have hc0 : cells = S.2.2.2.1.2.2.2.1 - g.2.2.2.1 := by omega
        have hs0 : slots = S.2.2.2.1.2.2.2.2 - g.2.2.2.2 := by omega
        show W p l e _ s m _ below meth c H locs cells slots (MQ below _ _ s (S.2.2.2.1.2.2.2.1 - g.2.2.2.1) (S.2.2.2.1.2.2.2.2 - g.2.2.2.2) _) (F0 m S.1 ls [.int x])
        rw [← hc0, ← hs0]
        refine W.zret hC.1 hC.2.1 (by rw [hr]; exact h2) h3 (fun t0 ht0 hWm => ⟨ad', ca', L', rfl, hag, ⟨hW'.1, hW'.2.1, hW'.2.2.1, by rw [ht0]; exact hW'.2.2.2.1, hW'.2.2.2.2.1, fun k q n hk h8 => ?_⟩, hS'.F ht0⟩) hS'.2.2 h4 hlocks
        obtain ⟨q1, q2, q3⟩ := hW'.2.2.2.2.2 k q n hk h8
        exact ⟨q1, arrOfT_moved hWm.alike q2, va_RA.moved hWm.alike q3⟩
      · rw [h1]
        have hc0 : cells = S.2.2.2.1.2.2.2.1 - g.2.2.2.1 := by omega
        have hs0 : slots = S.2.2.2.1.2.2.2.2 - g.2.2.2.2 := by omega
        show W p l e _ s m _ below meth c H locs cells slots (MQ below _ _ s (S.2.2.2.1.2.2.2.1 - g.2.2.2.1) (S.2.2.2.1.2.2.2.2 - g.2.2.2.2) _) (F0 m S.1 ls [.long x])
        rw [← hc0, ← hs0]
        refine W.lret hC.1 hC.2.1 (by rw [hr]; exact h2) (fun t0 ht0 hWm => ⟨ad', ca', L', rfl, hag, ⟨hW'.1, hW'.2.1, hW'.2.2.1, by rw [ht0]; exact hW'.2.2.2.1, hW'.2.2.2.2.1, fun k q n hk h8 => ?_⟩, hS'.F ht0⟩) hS'.2.2 h4 hlocks
        obtain ⟨q1, q2, q3⟩ := hW'.2.2.2.2.2 k q n hk h8
        exact ⟨q1, arrOfT_moved hWm.alike q2, va_RA.moved hWm.alike q3⟩
      · rw [h1]
        have hc0 : cells = S.2.2.2.1.2.2.2.1 - g.2.2.2.1 := by omega
        have hs0 : slots = S.2.2.2.1.2.2.2.2 - g.2.2.2.2 := by omega
        show W p l e _ s m _ below meth c H locs cells slots (MQ below _ _ s (S.2.2.2.1.2.2.2.1 - g.2.2.2.1) (S.2.2.2.1.2.2.2.2 - g.2.2.2.2) _) (F0 m S.1 ls [])
        rw [← hc0, ← hs0]
        refine W.vret hC.1 hC.2.1 (by rw [hr]; exact h2) (fun t0 ht0 hWm => ⟨ad', ca', L', rfl, hag, ⟨hW'.1, hW'.2.1, hW'.2.2.1, by rw [ht0]; exact hW'.2.2.2.1, hW'.2.2.2.2.1, fun k q n hk h8 => ?_⟩, hS'.F ht0⟩) hS'.2.2 h4 hlocks
        obtain ⟨q1, q2, q3⟩ := hW'.2.2.2.2.2 k q n hk h8
        exact ⟨q1, arrOfT_moved hWm.alike q2, va_RA.moved hWm.alike q3⟩
end SN
end
section
/-! THE CLAIM OUT OF ONE WALK OF THE LAW'S BODY. Your part is whole_start (and what it stands on); all else here is the same for every law, but numbers. -/
def R_law : String := "HillHousesLaw"
def lw_P (b : Addr) (xs : List Int32) (args : Array Value) (s : State) : Prop := args = #[.ref b] ∧ s.IntsAt b xs ∧ xs.length ≤ 3072 ∧ (Jvm.Cond.and given_1 narrow_1).before args s = true
def lw_Q (_ : Array Value) (s : State) (o : Outcome) (t : State) : Prop := o = .returned (some (.int 1)) ∧ Framed s o t [] 600000 7302250
def lw_Z (below : List Frame) (a : Array Value) (s : State) : State → Prop := fun t => ∃ o, t.status = .running ∧ Ended t below o ∧ lw_Q a s o t
/-- the law's own end, with 1 on the stack, nothing written that was there before, its room as the claim has it -/
theorem lw_ret {p : Program} {l : Launch} {e : Env} {s : State} {m : MethodId} {below : List Frame} {meth : Method} {c : Code} {b : Nat} (hx : p.tables.exec = Jvm.exec) (hb : c.code = code) (hr : meth.sig.returnType = ret) (hlocks : meth.locks = false) {pc : Nat} {H : Heap} {ls : Array Slot} (hdg : decode code pc = .ok (.ireturn, 1)) : W p l e room_1 s m #[Value.ref b] below meth c H [] 600000 7302250 (lw_Z below #[Value.ref b] s) (F0 m pc ls [.int 1]) := by
  intro T hT X
  obtain ⟨fs, hret, hrun, hended, hW, hframe⟩ := X.leave (v := some (.int 1)) (hlocks := hlocks) (fun h => by rw [hr] at h; cases h)
  have hmeth' : T.vm.method? m = some meth := X.method'
  refine ⟨T.setFrames fs, ?_, .returned (some (.int 1)), hrun, hended, rfl, ⟨_, rfl⟩, hW, hframe⟩
  jvm_step X.here [X.here.top, hx, hb, hdg, hmeth', hr, ret, narrow_b1]
  (try refine ⟨rfl, ?_⟩); (try refine ⟨rfl, ?_⟩)
  first | (intro acts; rw [hret _ acts rfl rfl rfl]) | rw [hret _ _ rfl rfl rfl]
  exact Steps.refl _
/-- what holds at the law's entry: the machine, the code, the tables' words (any of lw_tbl by 'hts w (by decide +kernel)'), the script of L ints xs at the cell b, what the Statement gives of the start (any of its parts by flat_of_before) -/
def lw_At (p : Program) (s : State) (m : MethodId) (meth : Method) (c : Code) (b L : Nat) (xs : Nat → Int32) : Prop :=
  p.tables.exec = Jvm.exec ∧ c.code = code ∧ meth.sig.returnType = ret ∧ c.maxLocals = 4 ∧ s.vm.findClass R_law = some m.cls ∧ (∀ w ∈ lw_tbl, w.before #[Value.ref b] s = true) ∧ va_X b L xs s s.heap ∧ b < s.heap.size ∧ meth.locks = false ∧ (Jvm.Cond.and given_1 narrow_1).before #[Value.ref b] s = true
/-! THE LAW'S START in the words of the small machine -/
def pm_st0 (i : Nat) : Term := .string "HillHouses$Tape" (((pm_stx[i]?).getD (0, "")).1)
def pm_fl : List Cond := flatC (Jvm.Cond.and given_1 narrow_1)
theorem pm_f1 : ∀ i, i < 8 → Cond.exactly (pm_st0 i) "java/lang/String" ∈ pm_fl := by decide +kernel
theorem pm_f2 : ∀ i, i < 8 → Cond.eq (.field (pm_st0 i) "java/lang/String" "coder" "B") (.int 0) ∈ pm_fl := by decide +kernel
theorem pm_f3 : ∀ i, i < 8 → Cond.arrayOf (.field (pm_st0 i) "java/lang/String" "value" "[B") .byte ∈ pm_fl := by decide +kernel
theorem pm_f4 : ∀ i, i < 8 → Cond.eq (.length (.field (pm_st0 i) "java/lang/String" "value" "[B")) (.int (Int32.ofNat ((pm_sb.map List.length).getD i 0))) ∈ pm_fl := by decide +kernel
theorem pm_f5 : ∀ i, i < 8 → ∀ j, j < (pm_sb.map List.length).getD i 0 → Cond.eq (.elem (.field (pm_st0 i) "java/lang/String" "value" "[B") (.int (Int32.ofNat j))) (.int ((pm_sb.getD i []).getD j 0)) ∈ pm_fl := by decide +kernel
theorem pm_f6 : ∀ i, i < 8 → ∀ j, j < 8 → i ≠ j → Cond.not (Cond.eq (pm_st0 i) (pm_st0 j)) ∈ pm_fl ∨ Cond.not (Cond.eq (pm_st0 j) (pm_st0 i)) ∈ pm_fl := by decide +kernel
theorem pm_f7 : ∀ i, i < 8 → Cond.stringRef "HillHouses$Tape" (((pm_stx[i]?).getD (0, "")).1) (((pm_stx[i]?).getD (0, "")).2) ∈ lw_tbl := by decide +kernel
def pm_tt0 (j : Nat) : Term := .static "HillHouses$Asker" (((pm_tb[j]?).getD ("", [])).1) "[I"
theorem pm_f8 : ∀ j, j < 3 → Cond.arrayOf (pm_tt0 j) .int ∈ pm_fl := by decide +kernel
theorem pm_f9 : ∀ j, j < 3 → Cond.eq (.length (pm_tt0 j)) (.int (Int32.ofNat ((pm_tb[j]?).getD ("", [])).2.length)) ∈ pm_fl := by decide +kernel
theorem pm_f10 : ∀ j, j < 3 → ∀ i, i < ((pm_tb[j]?).getD ("", [])).2.length → Cond.eq (.elem (pm_tt0 j) (.int (Int32.ofNat i))) (.int (((pm_tb[j]?).getD ("", [])).2.getD i 0)) ∈ pm_fl := by decide +kernel
theorem pm_f11 : ∀ j, j < 3 → Cond.laysStatic "HillHouses$Asker" (((pm_tb[j]?).getD ("", [])).1) "[I" ∈ lw_tbl := by decide +kernel
theorem pm_f12 : Cond.initialized "HillHouses$Asker" ∈ lw_tbl ∧ Cond.initialized "java/lang/String" ∈ lw_tbl ∧ Cond.initialized "jdk/internal/util/Preconditions" ∈ lw_tbl ∧ Cond.laysStatic "java/lang/String" "COMPACT_STRINGS" "Z" ∈ lw_tbl ∧ Cond.laysStatic "jdk/internal/util/Preconditions" "SIOOBE_FORMATTER" "Ljava/util/function/BiFunction;" ∈ lw_tbl := by decide +kernel
theorem pm_f13 : Cond.eq (.static "java/lang/String" "COMPACT_STRINGS" "Z") (.int 1) ∈ pm_fl ∧ Cond.isRef (.static "jdk/internal/util/Preconditions" "SIOOBE_FORMATTER" "Ljava/util/function/BiFunction;") ∈ pm_fl := by decide +kernel
theorem pm_f14 : ∀ e ∈ pm_nst, Cond.methodLinkNest e.1 e.2.1 e.2.2.1 e.2.2.2 ∈ lw_tbl := by decide +kernel
theorem pm_f15 : Cond.arrayOver (.object "HillHouses$Slope") ∈ lw_tbl := by decide +kernel
theorem pm_onT : ∀ e ∈ pm_nst, (Cond.methodLinkNest e.1 e.2.1 e.2.2.1 e.2.2.2).onTables = true := fun _ _ => rfl
theorem pm_env0 {s : State} {b L : Nat} {xs : Nat → Int32} (hts : ∀ w ∈ lw_tbl, w.before #[Value.ref b] s = true) (hX : va_X b L xs s s.heap) (hbl : b < s.heap.size) (hgv : (Jvm.Cond.and given_1 narrow_1).before #[Value.ref b] s = true) : ∃ (qv : Value) (ad : Nat → Nat), ad 1300 = b ∧ pm_Env (L, xs) qv ad (fun q => s.heap.size ≤ q) s s.heap := by
  have hf : ∀ w ∈ pm_fl, w.before #[Value.ref b] s = true := flat_of_before _ hgv
  have hA : ∀ a : Nat, a < s.heap.size → ¬ (fun q : Nat => s.heap.size ≤ q) a := fun a h => Nat.not_le.mpr h
  obtain ⟨adK, adV, hS, hR⟩ := vk_Sof (args := #[Value.ref b]) (tm := pm_st0) (N := 8) (len := pm_sb.map List.length) (byt := pm_sb) (A := fun q : Nat => s.heap.size ≤ q) (by decide) (fun i hi => hf _ (pm_f1 i hi)) (fun i hi => hf _ (pm_f2 i hi)) (fun i hi => hf _ (pm_f3 i hi)) (fun i hi => hf _ (pm_f4 i hi)) (fun i hi j hj => hf _ (pm_f5 i hi j hj)) (fun i j hi hj hij => (pm_f6 i hi j hj hij).imp (hf _) (hf _)) hA
  have hT : ∀ j : Nat, ∃ t : Nat, j < 3 → va_Z "HillHouses$Asker" (((pm_tb[j]?).getD ("", [])).1) "[I" (.ref t) (fun q : Nat => s.heap.size ≤ q) s s.heap ∧ va_T .int t ((pm_tb[j]?).getD ("", [])).2.length (fun i => .int (((pm_tb[j]?).getD ("", [])).2.getD i 0)) (fun q : Nat => s.heap.size ≤ q) s s.heap := by
    intro j
    by_cases hj : j < 3
    · obtain ⟨t, ht, hTt⟩ := va_Tof (f := fun i => .int (((pm_tb[j]?).getD ("", [])).2.getD i 0)) (A := fun q : Nat => s.heap.size ≤ q) (show ((pm_tb[j]?).getD ("", [])).2.length < 2 ^ 31 by rcases (show j = 0 ∨ j = 1 ∨ j = 2 by omega) with rfl | rfl | rfl <;> decide) (hf _ (pm_f8 j hj)) (va_eqt (hf _ (pm_f9 j hj))) (fun i hi => va_eqt (hf _ (pm_f10 j hj i hi))) hA
      exact ⟨t, fun _ => ⟨va_Zref (hts _ (pm_f11 j hj)) (hts _ pm_f12.1) ht hA, hTt⟩⟩
    · exact ⟨0, fun h => absurd h hj⟩
  obtain ⟨adT, hadT⟩ := Classical.axiomOfChoice hT
  have hq : ∃ qv : Value, (qv = .null ∨ ∃ t, qv = .ref t) ∧ va_Z "jdk/internal/util/Preconditions" "SIOOBE_FORMATTER" "Ljava/util/function/BiFunction;" qv (fun q : Nat => s.heap.size ≤ q) s s.heap := by
    rcases va_Zqof (A := fun q : Nat => s.heap.size ≤ q) (hts _ pm_f12.2.2.2.2) (hts _ pm_f12.2.2.1) (hf _ pm_f13.2) hA with h | ⟨t, h⟩
    · exact ⟨_, Or.inl rfl, h⟩
    · exact ⟨_, Or.inr ⟨t, rfl⟩, h⟩
  obtain ⟨qv, hqv, hZq⟩ := hq
  refine ⟨qv, fun k => if k = 1300 then b else if k < 1100 then adK (k - 1000) else if k < 1200 then adV (k - 1100) else adT (k - 1200), rfl, ?_, ?_, ?_, ?_, hqv, hZq, ?_, ?_, ?_, ?_⟩
  · have e8 : ∀ i, i < 8 → (if 1000 + i = 1300 then b else if 1000 + i < 1100 then adK (1000 + i - 1000) else if 1000 + i < 1200 then adV (1000 + i - 1100) else adT (1000 + i - 1200)) = adK i := fun i hi => by
      rw [if_neg (by omega), if_pos (by omega), show 1000 + i - 1000 = i by omega]
    have e9 : ∀ i, i < 8 → (if 1100 + i = 1300 then b else if 1100 + i < 1100 then adK (1100 + i - 1000) else if 1100 + i < 1200 then adV (1100 + i - 1100) else adT (1100 + i - 1200)) = adV i := fun i hi => by
      rw [if_neg (by omega), if_neg (by omega), if_pos (by omega), show 1100 + i - 1100 = i by omega]
    refine ⟨fun i hi => ?_, fun i j hi hj he => ?_⟩
    · have := hS.1 i hi
      simp only [e8 i hi, e9 i hi]
      exact this
    · simp only [e8 i hi, e8 j hj] at he
      exact hS.2 i j hi hj he
  · intro i t ht
    have hi : i < 8 := (List.getElem?_eq_some_iff.mp ht).1
    have h7 := pm_f7 i hi
    have hr := hR i hi
    unfold pm_st0 at hr
    rw [ht] at h7 hr
    show vk_R "HillHouses$Tape" t.1 t.2 (if 1000 + i = 1300 then b else if 1000 + i < 1100 then adK (1000 + i - 1000) else if 1000 + i < 1200 then adV (1000 + i - 1100) else adT (1000 + i - 1200)) s
    rw [if_neg (by omega), if_pos (by omega), show 1000 + i - 1000 = i by omega]
    exact vk_R.of (hts _ h7) hr
  · intro j t ht
    have hj : j < 3 := (List.getElem?_eq_some_iff.mp ht).1
    have := hadT j hj
    rw [ht] at this
    show va_Z "HillHouses$Asker" t.1 "[I" (.ref (if 1200 + j = 1300 then b else if 1200 + j < 1100 then adK (1200 + j - 1000) else if 1200 + j < 1200 then adV (1200 + j - 1100) else adT (1200 + j - 1200))) _ s s.heap ∧ va_T .int (if 1200 + j = 1300 then b else if 1200 + j < 1100 then adK (1200 + j - 1000) else if 1200 + j < 1200 then adV (1200 + j - 1100) else adT (1200 + j - 1200)) t.2.length _ _ s s.heap
    rw [if_neg (by omega), if_neg (by omega), if_neg (by omega), show 1200 + j - 1200 = j by omega]
    exact this
  · exact va_Zof (hts _ pm_f12.2.2.2.1) (hts _ pm_f12.2.1) (va_eqi (hf _ pm_f13.1)) hA
  · exact fun e he => va_Nw.of rfl (hts _ (pm_f14 e he))
  · exact hX
  · exact hA b hbl
  · exact va_AO.of (hts _ pm_f15)
end
section
/-! the small machine's equations: one step -/
section AT
variable {X : pm_X} {d mi pc : Nat} {lo lo' : List (Option Value)} {st : List Value} {g : pm_G} {iv : pm_V}
theorem pm_nI {cal : pm_C} {ins : Instr} {len : Nat} (hd : decode (pm_mb mi) pc = .ok (ins, len)) (hl : pm_len ins = some len ∨ pm_len ins = none) : pm_n X cal mi (pc, lo, st, g, iv) = pm_i X cal mi pc lo st g iv ins := by
  unfold pm_n
  rw [show decode (pm_mb mi) (pc, lo, st, g, iv).1 = .ok (ins, len) from hd]
  exact if_pos hl
/-- behind a call -/
noncomputable def pm_then (X : pm_X) (d mi pc : Nat) (lo : List (Option Value)) (r : List Value) (q : Option pm_R) : Option pm_R := match q with
  | some (v, g', iv') => pm_at X d mi (pc, lo, v.toList ++ r, g', iv')
  | none => none
theorem pm_then_i {r : List Value} {x : Int32} : pm_then X d mi pc lo r (some (some (.int x), g, iv)) = pm_at X d mi (pc, lo, .int x :: r, g, iv) := rfl
theorem pm_then_l {r : List Value} {x : Int64} : pm_then X d mi pc lo r (some (some (.long x), g, iv)) = pm_at X d mi (pc, lo, .long x :: r, g, iv) := rfl
theorem pm_then_v {r : List Value} : pm_then X d mi pc lo r (some (none, g, iv)) = pm_at X d mi (pc, lo, r, g, iv) := rfl

theorem at_iconst {n : Int} {v : Int32} (hd : decode (pm_mb mi) pc = .ok (.iconst n, 1)) (hv : Int32.ofInt n = v) : pm_at X d mi (pc, lo, st, g, iv) = pm_at X d mi (pc + 1, lo, .int v :: st, g, iv) :=
  pm_at_go (by rw [pm_nI hd (Or.inl rfl)]; subst hv; rfl)
theorem at_bipush {n : Int} {v : Int32} (hd : decode (pm_mb mi) pc = .ok (.bipush n, 2)) (hv : (Int8.ofInt n).toInt32 = v) : pm_at X d mi (pc, lo, st, g, iv) = pm_at X d mi (pc + 2, lo, .int v :: st, g, iv) :=
  pm_at_go (by rw [pm_nI hd (Or.inl rfl)]; subst hv; rfl)
theorem at_sipush {n : Int} {v : Int32} (hd : decode (pm_mb mi) pc = .ok (.sipush n, 3)) (hv : (Int16.ofInt n).toInt32 = v) : pm_at X d mi (pc, lo, st, g, iv) = pm_at X d mi (pc + 3, lo, .int v :: st, g, iv) :=
  pm_at_go (by rw [pm_nI hd (Or.inl rfl)]; subst hv; rfl)
theorem at_lconst {n : Fin 2} {v : Int64} (hd : decode (pm_mb mi) pc = .ok (.lconst n, 1)) (hv : Int64.ofNat (n : Nat) = v) : pm_at X d mi (pc, lo, st, g, iv) = pm_at X d mi (pc + 1, lo, .long v :: st, g, iv) :=
  pm_at_go (by rw [pm_nI hd (Or.inl rfl)]; subst hv; rfl)
theorem at_iload_n {k : Fin 4} {x : Int32} (hd : decode (pm_mb mi) pc = .ok (.iload_n k, 1)) (hl : lo[(k : Nat)]? = some (some (.int x))) : pm_at X d mi (pc, lo, st, g, iv) = pm_at X d mi (pc + 1, lo, .int x :: st, g, iv) :=
  pm_at_go (by rw [pm_nI hd (Or.inl rfl)]; show pm_ldI pc lo st g iv 1 k = _; unfold pm_ldI; rw [hl]; rfl)
theorem at_iload {k : Nat} {x : Int32} (hd : decode (pm_mb mi) pc = .ok (.iload k, 2)) (hl : lo[(k : Nat)]? = some (some (.int x))) : pm_at X d mi (pc, lo, st, g, iv) = pm_at X d mi (pc + 2, lo, .int x :: st, g, iv) :=
  pm_at_go (by rw [pm_nI hd (Or.inl rfl)]; show pm_ldI pc lo st g iv 2 k = _; unfold pm_ldI; rw [hl]; rfl)
theorem at_lload_n {k : Fin 4} {x : Int64} (hd : decode (pm_mb mi) pc = .ok (.lload_n k, 1)) (hl : lo[(k : Nat)]? = some (some (.long x))) : pm_at X d mi (pc, lo, st, g, iv) = pm_at X d mi (pc + 1, lo, .long x :: st, g, iv) :=
  pm_at_go (by rw [pm_nI hd (Or.inl rfl)]; show pm_ldL pc lo st g iv 1 k = _; unfold pm_ldL; rw [hl]; rfl)
theorem at_lload {k : Nat} {x : Int64} (hd : decode (pm_mb mi) pc = .ok (.lload k, 2)) (hl : lo[(k : Nat)]? = some (some (.long x))) : pm_at X d mi (pc, lo, st, g, iv) = pm_at X d mi (pc + 2, lo, .long x :: st, g, iv) :=
  pm_at_go (by rw [pm_nI hd (Or.inl rfl)]; show pm_ldL pc lo st g iv 2 k = _; unfold pm_ldL; rw [hl]; rfl)
theorem at_aload_n {k : Fin 4} {x : Nat} (hd : decode (pm_mb mi) pc = .ok (.aload_n k, 1)) (hl : lo[(k : Nat)]? = some (some (.ref x))) : pm_at X d mi (pc, lo, st, g, iv) = pm_at X d mi (pc + 1, lo, .ref x :: st, g, iv) :=
  pm_at_go (by rw [pm_nI hd (Or.inl rfl)]; show pm_ldA pc lo st g iv 1 k = _; unfold pm_ldA; rw [hl]; rfl)
theorem at_aload_nN {k : Fin 4} (hd : decode (pm_mb mi) pc = .ok (.aload_n k, 1)) (hl : lo[(k : Nat)]? = some (some .null)) : pm_at X d mi (pc, lo, st, g, iv) = pm_at X d mi (pc + 1, lo, .null :: st, g, iv) :=
  pm_at_go (by rw [pm_nI hd (Or.inl rfl)]; show pm_ldA pc lo st g iv 1 k = _; unfold pm_ldA; rw [hl]; rfl)
theorem at_aload_nA {k : Fin 4} {x : Nat} (hd : decode (pm_mb mi) pc = .ok (.aload_n k, 1)) (hl : lo[(k : Nat)]? = some (some (.retAddr x))) : pm_at X d mi (pc, lo, st, g, iv) = pm_at X d mi (pc + 1, lo, .retAddr x :: st, g, iv) :=
  pm_at_go (by rw [pm_nI hd (Or.inl rfl)]; show pm_ldA pc lo st g iv 1 k = _; unfold pm_ldA; rw [hl]; rfl)
theorem at_istore_n {k : Fin 4} {x : Int32} (hd : decode (pm_mb mi) pc = .ok (.istore_n k, 1)) (hl : pm_s1 lo (k : Nat) (.int x) = some lo') : pm_at X d mi (pc, lo, .int x :: st, g, iv) = pm_at X d mi (pc + 1, lo', st, g, iv) :=
  pm_at_go (by rw [pm_nI hd (Or.inl rfl)]; show pm_stI pc lo (.int x :: st) g iv 1 k = _; unfold pm_stI; simp only [hl]; rfl)
theorem at_istore {k : Nat} {x : Int32} (hd : decode (pm_mb mi) pc = .ok (.istore k, 2)) (hl : pm_s1 lo (k : Nat) (.int x) = some lo') : pm_at X d mi (pc, lo, .int x :: st, g, iv) = pm_at X d mi (pc + 2, lo', st, g, iv) :=
  pm_at_go (by rw [pm_nI hd (Or.inl rfl)]; show pm_stI pc lo (.int x :: st) g iv 2 k = _; unfold pm_stI; simp only [hl]; rfl)
theorem at_lstore_n {k : Fin 4} {x : Int64} (hd : decode (pm_mb mi) pc = .ok (.lstore_n k, 1)) (hl : pm_s2 lo (k : Nat) (.long x) = some lo') : pm_at X d mi (pc, lo, .long x :: st, g, iv) = pm_at X d mi (pc + 1, lo', st, g, iv) :=
  pm_at_go (by rw [pm_nI hd (Or.inl rfl)]; show pm_stL pc lo (.long x :: st) g iv 1 k = _; unfold pm_stL; simp only [hl]; rfl)
theorem at_astore_n {k : Fin 4} {x : Nat} (hd : decode (pm_mb mi) pc = .ok (.astore_n k, 1)) (hl : pm_s1 lo (k : Nat) (.ref x) = some lo') : pm_at X d mi (pc, lo, .ref x :: st, g, iv) = pm_at X d mi (pc + 1, lo', st, g, iv) :=
  pm_at_go (by rw [pm_nI hd (Or.inl rfl)]; show pm_stA pc lo (.ref x :: st) g iv 1 k = _; unfold pm_stA; simp only [hl]; rfl)
theorem at_astore_nN {k : Fin 4} (hd : decode (pm_mb mi) pc = .ok (.astore_n k, 1)) (hl : pm_s1 lo (k : Nat) .null = some lo') : pm_at X d mi (pc, lo, .null :: st, g, iv) = pm_at X d mi (pc + 1, lo', st, g, iv) :=
  pm_at_go (by rw [pm_nI hd (Or.inl rfl)]; show pm_stA pc lo (.null :: st) g iv 1 k = _; unfold pm_stA; simp only [hl]; rfl)
theorem at_iinc {k : Nat} {n : Int} {x v : Int32} (hd : decode (pm_mb mi) pc = .ok (.iinc k n, 3)) (hx : lo[k]? = some (some (.int x))) (hv : Int32.ofInt n = v) (hl : pm_s1 lo k (.int (x + v)) = some lo') : pm_at X d mi (pc, lo, st, g, iv) = pm_at X d mi (pc + 3, lo', st, g, iv) :=
  pm_at_go (by rw [pm_nI hd (Or.inl rfl)]; subst hv; show pm_inc pc lo st g iv k n = _; unfold pm_inc; simp only [hx, hl]; rfl)
theorem at_iadd {x y : Int32} (hd : decode (pm_mb mi) pc = .ok (.iadd, 1)) : pm_at X d mi (pc, lo, .int y :: .int x :: st, g, iv) = pm_at X d mi (pc + 1, lo, .int (x + y) :: st, g, iv) :=
  pm_at_go (by rw [pm_nI hd (Or.inl rfl)]; rfl)
theorem at_isub {x y : Int32} (hd : decode (pm_mb mi) pc = .ok (.isub, 1)) : pm_at X d mi (pc, lo, .int y :: .int x :: st, g, iv) = pm_at X d mi (pc + 1, lo, .int (x - y) :: st, g, iv) :=
  pm_at_go (by rw [pm_nI hd (Or.inl rfl)]; rfl)
theorem at_imul {x y : Int32} (hd : decode (pm_mb mi) pc = .ok (.imul, 1)) : pm_at X d mi (pc, lo, .int y :: .int x :: st, g, iv) = pm_at X d mi (pc + 1, lo, .int (x * y) :: st, g, iv) :=
  pm_at_go (by rw [pm_nI hd (Or.inl rfl)]; rfl)
theorem at_iand {x y : Int32} (hd : decode (pm_mb mi) pc = .ok (.iand, 1)) : pm_at X d mi (pc, lo, .int y :: .int x :: st, g, iv) = pm_at X d mi (pc + 1, lo, .int (x &&& y) :: st, g, iv) :=
  pm_at_go (by rw [pm_nI hd (Or.inl rfl)]; rfl)
theorem at_ior {x y : Int32} (hd : decode (pm_mb mi) pc = .ok (.ior, 1)) : pm_at X d mi (pc, lo, .int y :: .int x :: st, g, iv) = pm_at X d mi (pc + 1, lo, .int (x ||| y) :: st, g, iv) :=
  pm_at_go (by rw [pm_nI hd (Or.inl rfl)]; rfl)
theorem at_ixor {x y : Int32} (hd : decode (pm_mb mi) pc = .ok (.ixor, 1)) : pm_at X d mi (pc, lo, .int y :: .int x :: st, g, iv) = pm_at X d mi (pc + 1, lo, .int (x ^^^ y) :: st, g, iv) :=
  pm_at_go (by rw [pm_nI hd (Or.inl rfl)]; rfl)
theorem at_ishl {x y : Int32} (hd : decode (pm_mb mi) pc = .ok (.ishl, 1)) : pm_at X d mi (pc, lo, .int y :: .int x :: st, g, iv) = pm_at X d mi (pc + 1, lo, .int (x <<< (y &&& 31)) :: st, g, iv) :=
  pm_at_go (by rw [pm_nI hd (Or.inl rfl)]; rfl)
theorem at_ishr {x y : Int32} (hd : decode (pm_mb mi) pc = .ok (.ishr, 1)) : pm_at X d mi (pc, lo, .int y :: .int x :: st, g, iv) = pm_at X d mi (pc + 1, lo, .int (x >>> (y &&& 31)) :: st, g, iv) :=
  pm_at_go (by rw [pm_nI hd (Or.inl rfl)]; rfl)
theorem at_iushr {x y : Int32} (hd : decode (pm_mb mi) pc = .ok (.iushr, 1)) : pm_at X d mi (pc, lo, .int y :: .int x :: st, g, iv) = pm_at X d mi (pc + 1, lo, .int ((x.toUInt32 >>> (y.toUInt32 &&& Int32.toUInt32 31)).toInt32) :: st, g, iv) :=
  pm_at_go (by rw [pm_nI hd (Or.inl rfl)]; rfl)
theorem at_idiv {x y : Int32} (hd : decode (pm_mb mi) pc = .ok (.idiv, 1)) (hy : ¬ y = 0) : pm_at X d mi (pc, lo, .int y :: .int x :: st, g, iv) = pm_at X d mi (pc + 1, lo, .int (x / y) :: st, g, iv) :=
  pm_at_go (by rw [pm_nI hd (Or.inl rfl)]; exact if_pos hy)
theorem at_irem {x y : Int32} (hd : decode (pm_mb mi) pc = .ok (.irem, 1)) (hy : ¬ y = 0) : pm_at X d mi (pc, lo, .int y :: .int x :: st, g, iv) = pm_at X d mi (pc + 1, lo, .int (x - x / y * y) :: st, g, iv) :=
  pm_at_go (by rw [pm_nI hd (Or.inl rfl)]; exact if_pos hy)
theorem at_ineg {x : Int32} (hd : decode (pm_mb mi) pc = .ok (.ineg, 1)) : pm_at X d mi (pc, lo, .int x :: st, g, iv) = pm_at X d mi (pc + 1, lo, .int (-x) :: st, g, iv) :=
  pm_at_go (by rw [pm_nI hd (Or.inl rfl)]; rfl)
theorem at_i2b {x : Int32} (hd : decode (pm_mb mi) pc = .ok (.i2b, 1)) : pm_at X d mi (pc, lo, .int x :: st, g, iv) = pm_at X d mi (pc + 1, lo, .int (x.toInt8.toInt32) :: st, g, iv) :=
  pm_at_go (by rw [pm_nI hd (Or.inl rfl)]; rfl)
theorem at_i2s {x : Int32} (hd : decode (pm_mb mi) pc = .ok (.i2s, 1)) : pm_at X d mi (pc, lo, .int x :: st, g, iv) = pm_at X d mi (pc + 1, lo, .int (x.toInt16.toInt32) :: st, g, iv) :=
  pm_at_go (by rw [pm_nI hd (Or.inl rfl)]; rfl)
theorem at_i2c {x : Int32} (hd : decode (pm_mb mi) pc = .ok (.i2c, 1)) : pm_at X d mi (pc, lo, .int x :: st, g, iv) = pm_at X d mi (pc + 1, lo, .int ((x.toUInt32 % 65536).toInt32) :: st, g, iv) :=
  pm_at_go (by rw [pm_nI hd (Or.inl rfl)]; rfl)
theorem at_i2l {x : Int32} (hd : decode (pm_mb mi) pc = .ok (.i2l, 1)) : pm_at X d mi (pc, lo, .int x :: st, g, iv) = pm_at X d mi (pc + 1, lo, .long x.toInt64 :: st, g, iv) :=
  pm_at_go (by rw [pm_nI hd (Or.inl rfl)]; rfl)
theorem at_l2i {x : Int64} (hd : decode (pm_mb mi) pc = .ok (.l2i, 1)) : pm_at X d mi (pc, lo, .long x :: st, g, iv) = pm_at X d mi (pc + 1, lo, .int x.toInt32 :: st, g, iv) :=
  pm_at_go (by rw [pm_nI hd (Or.inl rfl)]; rfl)
theorem at_ladd {x y : Int64} (hd : decode (pm_mb mi) pc = .ok (.ladd, 1)) : pm_at X d mi (pc, lo, .long y :: .long x :: st, g, iv) = pm_at X d mi (pc + 1, lo, .long (x + y) :: st, g, iv) :=
  pm_at_go (by rw [pm_nI hd (Or.inl rfl)]; rfl)
theorem at_land {x y : Int64} (hd : decode (pm_mb mi) pc = .ok (.land, 1)) : pm_at X d mi (pc, lo, .long y :: .long x :: st, g, iv) = pm_at X d mi (pc + 1, lo, .long (x &&& y) :: st, g, iv) :=
  pm_at_go (by rw [pm_nI hd (Or.inl rfl)]; rfl)
theorem at_lor {x y : Int64} (hd : decode (pm_mb mi) pc = .ok (.lor, 1)) : pm_at X d mi (pc, lo, .long y :: .long x :: st, g, iv) = pm_at X d mi (pc + 1, lo, .long (x ||| y) :: st, g, iv) :=
  pm_at_go (by rw [pm_nI hd (Or.inl rfl)]; rfl)
theorem at_lshl {x : Int64} {y : Int32} (hd : decode (pm_mb mi) pc = .ok (.lshl, 1)) : pm_at X d mi (pc, lo, .int y :: .long x :: st, g, iv) = pm_at X d mi (pc + 1, lo, .long (x <<< (y.toInt64 &&& 63)) :: st, g, iv) :=
  pm_at_go (by rw [pm_nI hd (Or.inl rfl)]; rfl)
theorem at_lshr {x : Int64} {y : Int32} (hd : decode (pm_mb mi) pc = .ok (.lshr, 1)) : pm_at X d mi (pc, lo, .int y :: .long x :: st, g, iv) = pm_at X d mi (pc + 1, lo, .long (x >>> (y.toInt64 &&& 63)) :: st, g, iv) :=
  pm_at_go (by rw [pm_nI hd (Or.inl rfl)]; rfl)
theorem at_lcmp {x y : Int64} (hd : decode (pm_mb mi) pc = .ok (.lcmp, 1)) : pm_at X d mi (pc, lo, .long y :: .long x :: st, g, iv) = pm_at X d mi (pc + 1, lo, .int (lg_cmp x y) :: st, g, iv) :=
  pm_at_go (by rw [pm_nI hd (Or.inl rfl)]; rfl)
theorem at_dup {v : Value} (hd : decode (pm_mb mi) pc = .ok (.dup, 1)) (hv : v.category = 1) : pm_at X d mi (pc, lo, v :: st, g, iv) = pm_at X d mi (pc + 1, lo, v :: v :: st, g, iv) :=
  pm_at_go (by rw [pm_nI hd (Or.inl rfl)]; exact if_pos hv)
theorem at_dup2 {v w : Value} (hd : decode (pm_mb mi) pc = .ok (.dup2, 1)) (hv : v.category = 1 ∧ w.category = 1) : pm_at X d mi (pc, lo, v :: w :: st, g, iv) = pm_at X d mi (pc + 1, lo, v :: w :: v :: w :: st, g, iv) :=
  pm_at_go (by rw [pm_nI hd (Or.inl rfl)]; exact if_pos hv)
theorem at_pop {v : Value} (hd : decode (pm_mb mi) pc = .ok (.pop, 1)) (hv : v.category = 1) : pm_at X d mi (pc, lo, v :: st, g, iv) = pm_at X d mi (pc + 1, lo, st, g, iv) :=
  pm_at_go (by rw [pm_nI hd (Or.inl rfl)]; exact if_pos hv)
theorem at_goto {off : Int} {t : Nat} (hd : decode (pm_mb mi) pc = .ok (.goto off, 3)) (ht : (pc : Int) + off = (t : Int)) : pm_at X d mi (pc, lo, st, g, iv) = pm_at X d mi (t, lo, st, g, iv) :=
  pm_at_go (by rw [pm_nI hd (Or.inl rfl)]; show pm_jmp pc lo g iv off st = _; unfold pm_jmp; rw [ht]; exact if_pos (Int.natCast_nonneg t))
theorem at_if_eq {x : Int32} {off : Int} {t : Nat} (hd : decode (pm_mb mi) pc = .ok (.ifCond .eq off, 3)) (ht : (pc : Int) + off = (t : Int)) : pm_at X d mi (pc, lo, .int x :: st, g, iv) = if x = 0 then pm_at X d mi (t, lo, st, g, iv) else pm_at X d mi (pc + 3, lo, st, g, iv) := by
  by_cases h : x = 0
  · rw [if_pos h]
    exact pm_at_go (by rw [pm_nI hd (Or.inl rfl)]; show pm_ifn (0 ≤ (pc : Int) + off) (if pm_cd1 .eq x = true then pm_go ((pc : Int) + off).toNat lo st g iv else pm_go (pc + 3) lo st g iv) = _; rw [ht]; unfold pm_ifn; rw [if_pos (Int.natCast_nonneg t), if_pos (show pm_cd1 .eq x = true from decide_eq_true h)]; rfl)
  · rw [if_neg h]
    exact pm_at_go (by rw [pm_nI hd (Or.inl rfl)]; show pm_ifn (0 ≤ (pc : Int) + off) (if pm_cd1 .eq x = true then pm_go ((pc : Int) + off).toNat lo st g iv else pm_go (pc + 3) lo st g iv) = _; rw [ht]; unfold pm_ifn; rw [if_pos (Int.natCast_nonneg t), if_neg (show ¬ pm_cd1 .eq x = true from fun q => h (of_decide_eq_true q))]; rfl)
theorem at_if_ne {x : Int32} {off : Int} {t : Nat} (hd : decode (pm_mb mi) pc = .ok (.ifCond .ne off, 3)) (ht : (pc : Int) + off = (t : Int)) : pm_at X d mi (pc, lo, .int x :: st, g, iv) = if ¬ x = 0 then pm_at X d mi (t, lo, st, g, iv) else pm_at X d mi (pc + 3, lo, st, g, iv) := by
  by_cases h : ¬ x = 0
  · rw [if_pos h]
    exact pm_at_go (by rw [pm_nI hd (Or.inl rfl)]; show pm_ifn (0 ≤ (pc : Int) + off) (if pm_cd1 .ne x = true then pm_go ((pc : Int) + off).toNat lo st g iv else pm_go (pc + 3) lo st g iv) = _; rw [ht]; unfold pm_ifn; rw [if_pos (Int.natCast_nonneg t), if_pos (show pm_cd1 .ne x = true from decide_eq_true h)]; rfl)
  · rw [if_neg h]
    exact pm_at_go (by rw [pm_nI hd (Or.inl rfl)]; show pm_ifn (0 ≤ (pc : Int) + off) (if pm_cd1 .ne x = true then pm_go ((pc : Int) + off).toNat lo st g iv else pm_go (pc + 3) lo st g iv) = _; rw [ht]; unfold pm_ifn; rw [if_pos (Int.natCast_nonneg t), if_neg (show ¬ pm_cd1 .ne x = true from fun q => h (of_decide_eq_true q))]; rfl)
theorem at_if_lt {x : Int32} {off : Int} {t : Nat} (hd : decode (pm_mb mi) pc = .ok (.ifCond .lt off, 3)) (ht : (pc : Int) + off = (t : Int)) : pm_at X d mi (pc, lo, .int x :: st, g, iv) = if x < 0 then pm_at X d mi (t, lo, st, g, iv) else pm_at X d mi (pc + 3, lo, st, g, iv) := by
  by_cases h : x < 0
  · rw [if_pos h]
    exact pm_at_go (by rw [pm_nI hd (Or.inl rfl)]; show pm_ifn (0 ≤ (pc : Int) + off) (if pm_cd1 .lt x = true then pm_go ((pc : Int) + off).toNat lo st g iv else pm_go (pc + 3) lo st g iv) = _; rw [ht]; unfold pm_ifn; rw [if_pos (Int.natCast_nonneg t), if_pos (show pm_cd1 .lt x = true from decide_eq_true h)]; rfl)
  · rw [if_neg h]
    exact pm_at_go (by rw [pm_nI hd (Or.inl rfl)]; show pm_ifn (0 ≤ (pc : Int) + off) (if pm_cd1 .lt x = true then pm_go ((pc : Int) + off).toNat lo st g iv else pm_go (pc + 3) lo st g iv) = _; rw [ht]; unfold pm_ifn; rw [if_pos (Int.natCast_nonneg t), if_neg (show ¬ pm_cd1 .lt x = true from fun q => h (of_decide_eq_true q))]; rfl)
theorem at_if_ge {x : Int32} {off : Int} {t : Nat} (hd : decode (pm_mb mi) pc = .ok (.ifCond .ge off, 3)) (ht : (pc : Int) + off = (t : Int)) : pm_at X d mi (pc, lo, .int x :: st, g, iv) = if 0 ≤ x then pm_at X d mi (t, lo, st, g, iv) else pm_at X d mi (pc + 3, lo, st, g, iv) := by
  by_cases h : 0 ≤ x
  · rw [if_pos h]
    exact pm_at_go (by rw [pm_nI hd (Or.inl rfl)]; show pm_ifn (0 ≤ (pc : Int) + off) (if pm_cd1 .ge x = true then pm_go ((pc : Int) + off).toNat lo st g iv else pm_go (pc + 3) lo st g iv) = _; rw [ht]; unfold pm_ifn; rw [if_pos (Int.natCast_nonneg t), if_pos (show pm_cd1 .ge x = true from decide_eq_true h)]; rfl)
  · rw [if_neg h]
    exact pm_at_go (by rw [pm_nI hd (Or.inl rfl)]; show pm_ifn (0 ≤ (pc : Int) + off) (if pm_cd1 .ge x = true then pm_go ((pc : Int) + off).toNat lo st g iv else pm_go (pc + 3) lo st g iv) = _; rw [ht]; unfold pm_ifn; rw [if_pos (Int.natCast_nonneg t), if_neg (show ¬ pm_cd1 .ge x = true from fun q => h (of_decide_eq_true q))]; rfl)
theorem at_if_gt {x : Int32} {off : Int} {t : Nat} (hd : decode (pm_mb mi) pc = .ok (.ifCond .gt off, 3)) (ht : (pc : Int) + off = (t : Int)) : pm_at X d mi (pc, lo, .int x :: st, g, iv) = if 0 < x then pm_at X d mi (t, lo, st, g, iv) else pm_at X d mi (pc + 3, lo, st, g, iv) := by
  by_cases h : 0 < x
  · rw [if_pos h]
    exact pm_at_go (by rw [pm_nI hd (Or.inl rfl)]; show pm_ifn (0 ≤ (pc : Int) + off) (if pm_cd1 .gt x = true then pm_go ((pc : Int) + off).toNat lo st g iv else pm_go (pc + 3) lo st g iv) = _; rw [ht]; unfold pm_ifn; rw [if_pos (Int.natCast_nonneg t), if_pos (show pm_cd1 .gt x = true from decide_eq_true h)]; rfl)
  · rw [if_neg h]
    exact pm_at_go (by rw [pm_nI hd (Or.inl rfl)]; show pm_ifn (0 ≤ (pc : Int) + off) (if pm_cd1 .gt x = true then pm_go ((pc : Int) + off).toNat lo st g iv else pm_go (pc + 3) lo st g iv) = _; rw [ht]; unfold pm_ifn; rw [if_pos (Int.natCast_nonneg t), if_neg (show ¬ pm_cd1 .gt x = true from fun q => h (of_decide_eq_true q))]; rfl)
theorem at_if_le {x : Int32} {off : Int} {t : Nat} (hd : decode (pm_mb mi) pc = .ok (.ifCond .le off, 3)) (ht : (pc : Int) + off = (t : Int)) : pm_at X d mi (pc, lo, .int x :: st, g, iv) = if x ≤ 0 then pm_at X d mi (t, lo, st, g, iv) else pm_at X d mi (pc + 3, lo, st, g, iv) := by
  by_cases h : x ≤ 0
  · rw [if_pos h]
    exact pm_at_go (by rw [pm_nI hd (Or.inl rfl)]; show pm_ifn (0 ≤ (pc : Int) + off) (if pm_cd1 .le x = true then pm_go ((pc : Int) + off).toNat lo st g iv else pm_go (pc + 3) lo st g iv) = _; rw [ht]; unfold pm_ifn; rw [if_pos (Int.natCast_nonneg t), if_pos (show pm_cd1 .le x = true from decide_eq_true h)]; rfl)
  · rw [if_neg h]
    exact pm_at_go (by rw [pm_nI hd (Or.inl rfl)]; show pm_ifn (0 ≤ (pc : Int) + off) (if pm_cd1 .le x = true then pm_go ((pc : Int) + off).toNat lo st g iv else pm_go (pc + 3) lo st g iv) = _; rw [ht]; unfold pm_ifn; rw [if_pos (Int.natCast_nonneg t), if_neg (show ¬ pm_cd1 .le x = true from fun q => h (of_decide_eq_true q))]; rfl)
theorem at_icmp_eq {x y : Int32} {off : Int} {t : Nat} (hd : decode (pm_mb mi) pc = .ok (.if_icmp .eq off, 3)) (ht : (pc : Int) + off = (t : Int)) : pm_at X d mi (pc, lo, .int y :: .int x :: st, g, iv) = if x = y then pm_at X d mi (t, lo, st, g, iv) else pm_at X d mi (pc + 3, lo, st, g, iv) := by
  by_cases h : x = y
  · rw [if_pos h]
    exact pm_at_go (by rw [pm_nI hd (Or.inl rfl)]; show pm_ifn (0 ≤ (pc : Int) + off) (if pm_cd2 .eq x y = true then pm_go ((pc : Int) + off).toNat lo st g iv else pm_go (pc + 3) lo st g iv) = _; rw [ht]; unfold pm_ifn; rw [if_pos (Int.natCast_nonneg t), if_pos (show pm_cd2 .eq x y = true from decide_eq_true h)]; rfl)
  · rw [if_neg h]
    exact pm_at_go (by rw [pm_nI hd (Or.inl rfl)]; show pm_ifn (0 ≤ (pc : Int) + off) (if pm_cd2 .eq x y = true then pm_go ((pc : Int) + off).toNat lo st g iv else pm_go (pc + 3) lo st g iv) = _; rw [ht]; unfold pm_ifn; rw [if_pos (Int.natCast_nonneg t), if_neg (show ¬ pm_cd2 .eq x y = true from fun q => h (of_decide_eq_true q))]; rfl)
theorem at_icmp_ne {x y : Int32} {off : Int} {t : Nat} (hd : decode (pm_mb mi) pc = .ok (.if_icmp .ne off, 3)) (ht : (pc : Int) + off = (t : Int)) : pm_at X d mi (pc, lo, .int y :: .int x :: st, g, iv) = if ¬ x = y then pm_at X d mi (t, lo, st, g, iv) else pm_at X d mi (pc + 3, lo, st, g, iv) := by
  by_cases h : ¬ x = y
  · rw [if_pos h]
    exact pm_at_go (by rw [pm_nI hd (Or.inl rfl)]; show pm_ifn (0 ≤ (pc : Int) + off) (if pm_cd2 .ne x y = true then pm_go ((pc : Int) + off).toNat lo st g iv else pm_go (pc + 3) lo st g iv) = _; rw [ht]; unfold pm_ifn; rw [if_pos (Int.natCast_nonneg t), if_pos (show pm_cd2 .ne x y = true from decide_eq_true h)]; rfl)
  · rw [if_neg h]
    exact pm_at_go (by rw [pm_nI hd (Or.inl rfl)]; show pm_ifn (0 ≤ (pc : Int) + off) (if pm_cd2 .ne x y = true then pm_go ((pc : Int) + off).toNat lo st g iv else pm_go (pc + 3) lo st g iv) = _; rw [ht]; unfold pm_ifn; rw [if_pos (Int.natCast_nonneg t), if_neg (show ¬ pm_cd2 .ne x y = true from fun q => h (of_decide_eq_true q))]; rfl)
theorem at_icmp_lt {x y : Int32} {off : Int} {t : Nat} (hd : decode (pm_mb mi) pc = .ok (.if_icmp .lt off, 3)) (ht : (pc : Int) + off = (t : Int)) : pm_at X d mi (pc, lo, .int y :: .int x :: st, g, iv) = if x < y then pm_at X d mi (t, lo, st, g, iv) else pm_at X d mi (pc + 3, lo, st, g, iv) := by
  by_cases h : x < y
  · rw [if_pos h]
    exact pm_at_go (by rw [pm_nI hd (Or.inl rfl)]; show pm_ifn (0 ≤ (pc : Int) + off) (if pm_cd2 .lt x y = true then pm_go ((pc : Int) + off).toNat lo st g iv else pm_go (pc + 3) lo st g iv) = _; rw [ht]; unfold pm_ifn; rw [if_pos (Int.natCast_nonneg t), if_pos (show pm_cd2 .lt x y = true from decide_eq_true h)]; rfl)
  · rw [if_neg h]
    exact pm_at_go (by rw [pm_nI hd (Or.inl rfl)]; show pm_ifn (0 ≤ (pc : Int) + off) (if pm_cd2 .lt x y = true then pm_go ((pc : Int) + off).toNat lo st g iv else pm_go (pc + 3) lo st g iv) = _; rw [ht]; unfold pm_ifn; rw [if_pos (Int.natCast_nonneg t), if_neg (show ¬ pm_cd2 .lt x y = true from fun q => h (of_decide_eq_true q))]; rfl)
theorem at_icmp_ge {x y : Int32} {off : Int} {t : Nat} (hd : decode (pm_mb mi) pc = .ok (.if_icmp .ge off, 3)) (ht : (pc : Int) + off = (t : Int)) : pm_at X d mi (pc, lo, .int y :: .int x :: st, g, iv) = if y ≤ x then pm_at X d mi (t, lo, st, g, iv) else pm_at X d mi (pc + 3, lo, st, g, iv) := by
  by_cases h : y ≤ x
  · rw [if_pos h]
    exact pm_at_go (by rw [pm_nI hd (Or.inl rfl)]; show pm_ifn (0 ≤ (pc : Int) + off) (if pm_cd2 .ge x y = true then pm_go ((pc : Int) + off).toNat lo st g iv else pm_go (pc + 3) lo st g iv) = _; rw [ht]; unfold pm_ifn; rw [if_pos (Int.natCast_nonneg t), if_pos (show pm_cd2 .ge x y = true from decide_eq_true h)]; rfl)
  · rw [if_neg h]
    exact pm_at_go (by rw [pm_nI hd (Or.inl rfl)]; show pm_ifn (0 ≤ (pc : Int) + off) (if pm_cd2 .ge x y = true then pm_go ((pc : Int) + off).toNat lo st g iv else pm_go (pc + 3) lo st g iv) = _; rw [ht]; unfold pm_ifn; rw [if_pos (Int.natCast_nonneg t), if_neg (show ¬ pm_cd2 .ge x y = true from fun q => h (of_decide_eq_true q))]; rfl)
theorem at_icmp_gt {x y : Int32} {off : Int} {t : Nat} (hd : decode (pm_mb mi) pc = .ok (.if_icmp .gt off, 3)) (ht : (pc : Int) + off = (t : Int)) : pm_at X d mi (pc, lo, .int y :: .int x :: st, g, iv) = if y < x then pm_at X d mi (t, lo, st, g, iv) else pm_at X d mi (pc + 3, lo, st, g, iv) := by
  by_cases h : y < x
  · rw [if_pos h]
    exact pm_at_go (by rw [pm_nI hd (Or.inl rfl)]; show pm_ifn (0 ≤ (pc : Int) + off) (if pm_cd2 .gt x y = true then pm_go ((pc : Int) + off).toNat lo st g iv else pm_go (pc + 3) lo st g iv) = _; rw [ht]; unfold pm_ifn; rw [if_pos (Int.natCast_nonneg t), if_pos (show pm_cd2 .gt x y = true from decide_eq_true h)]; rfl)
  · rw [if_neg h]
    exact pm_at_go (by rw [pm_nI hd (Or.inl rfl)]; show pm_ifn (0 ≤ (pc : Int) + off) (if pm_cd2 .gt x y = true then pm_go ((pc : Int) + off).toNat lo st g iv else pm_go (pc + 3) lo st g iv) = _; rw [ht]; unfold pm_ifn; rw [if_pos (Int.natCast_nonneg t), if_neg (show ¬ pm_cd2 .gt x y = true from fun q => h (of_decide_eq_true q))]; rfl)
theorem at_icmp_le {x y : Int32} {off : Int} {t : Nat} (hd : decode (pm_mb mi) pc = .ok (.if_icmp .le off, 3)) (ht : (pc : Int) + off = (t : Int)) : pm_at X d mi (pc, lo, .int y :: .int x :: st, g, iv) = if x ≤ y then pm_at X d mi (t, lo, st, g, iv) else pm_at X d mi (pc + 3, lo, st, g, iv) := by
  by_cases h : x ≤ y
  · rw [if_pos h]
    exact pm_at_go (by rw [pm_nI hd (Or.inl rfl)]; show pm_ifn (0 ≤ (pc : Int) + off) (if pm_cd2 .le x y = true then pm_go ((pc : Int) + off).toNat lo st g iv else pm_go (pc + 3) lo st g iv) = _; rw [ht]; unfold pm_ifn; rw [if_pos (Int.natCast_nonneg t), if_pos (show pm_cd2 .le x y = true from decide_eq_true h)]; rfl)
  · rw [if_neg h]
    exact pm_at_go (by rw [pm_nI hd (Or.inl rfl)]; show pm_ifn (0 ≤ (pc : Int) + off) (if pm_cd2 .le x y = true then pm_go ((pc : Int) + off).toNat lo st g iv else pm_go (pc + 3) lo st g iv) = _; rw [ht]; unfold pm_ifn; rw [if_pos (Int.natCast_nonneg t), if_neg (show ¬ pm_cd2 .le x y = true from fun q => h (of_decide_eq_true q))]; rfl)
theorem at_nn {x : Nat} {off : Int} {t : Nat} (hd : decode (pm_mb mi) pc = .ok (.ifnonnull off, 3)) (ht : (pc : Int) + off = (t : Int)) : pm_at X d mi (pc, lo, .ref x :: st, g, iv) = pm_at X d mi (t, lo, st, g, iv) :=
  pm_at_go (by rw [pm_nI hd (Or.inl rfl)]; show pm_jmp pc lo g iv off st = _; unfold pm_jmp; rw [ht]; exact if_pos (Int.natCast_nonneg t))
theorem at_nnN {off : Int} (hd : decode (pm_mb mi) pc = .ok (.ifnonnull off, 3)) : pm_at X d mi (pc, lo, .null :: st, g, iv) = pm_at X d mi (pc + 3, lo, st, g, iv) :=
  pm_at_go (by rw [pm_nI hd (Or.inl rfl)]; rfl)
theorem at_tswO {df lw up : Int} {os : Array Int} {len : Nat} {x : Int32} {t : Nat} (hd : decode (pm_mb mi) pc = .ok (.tableswitch df lw up os, len)) (h : x.toInt < lw ∨ up < x.toInt) (ht : (pc : Int) + df = (t : Int)) : pm_at X d mi (pc, lo, .int x :: st, g, iv) = pm_at X d mi (t, lo, st, g, iv) :=
  pm_at_go (by rw [pm_nI hd (Or.inr rfl)]; show pm_tsw pc lo (.int x :: st) g iv df lw up os = _; unfold pm_tsw; simp only [if_pos h]; unfold pm_jmp; rw [ht]; exact if_pos (Int.natCast_nonneg t))
theorem at_tswI {df lw up : Int} {os : Array Int} {len : Nat} {x : Int32} {of : Int} {t : Nat} (hd : decode (pm_mb mi) pc = .ok (.tableswitch df lw up os, len)) (h : ¬ (x.toInt < lw ∨ up < x.toInt)) (ho : os[(x.toInt - lw).toNat]? = some of) (ht : (pc : Int) + of = (t : Int)) : pm_at X d mi (pc, lo, .int x :: st, g, iv) = pm_at X d mi (t, lo, st, g, iv) :=
  pm_at_go (by rw [pm_nI hd (Or.inr rfl)]; show pm_tsw pc lo (.int x :: st) g iv df lw up os = _; unfold pm_tsw; simp only [if_neg h, ho]; unfold pm_jmp; rw [ht]; exact if_pos (Int.natCast_nonneg t))
theorem at_lsw {df : Int} {ps : Array (Int × Int)} {len : Nat} {x : Int32} {of : Int} {t : Nat} (hd : decode (pm_mb mi) pc = .ok (.lookupswitch df ps, len)) (hp : (ps.toList.zip (ps.toList.drop 1)).all (fun (a, next) => a.1 < next.1) = true) (ho : Op.lookupswitch.offset ps.toList df x.toInt = of) (ht : (pc : Int) + of = (t : Int)) : pm_at X d mi (pc, lo, .int x :: st, g, iv) = pm_at X d mi (t, lo, st, g, iv) :=
  pm_at_go (by rw [pm_nI hd (Or.inr rfl)]; show pm_ifn ((ps.toList.zip (ps.toList.drop 1)).all (fun (a, next) => a.1 < next.1) = true) (pm_jmp pc lo g iv (Op.lookupswitch.offset ps.toList df x.toInt) st) = _; unfold pm_ifn; rw [ho]; refine (if_pos hp).trans ?_; unfold pm_jmp; rw [ht]; exact if_pos (Int.natCast_nonneg t))
theorem at_gfI {c idx ci sl z a : Nat} (hd : decode (pm_mb mi) pc = .ok (.getfield idx, 3)) (hm : pm_mc mi = c) (hf : pm_lft.lookup (c, idx) = some (ci, sl, z)) (ho : ¬ ci = 100 ∧ ci < 7 ∧ sl < pm_nf ci ∧ pm_rf ci sl = false) (hk : g.1 a = some (ci, 0)) : pm_at X d mi (pc, lo, .ref a :: st, g, iv) = pm_at X d mi (pc + 3, lo, .int (iv a sl) :: st, g, iv) :=
  pm_at_go (by rw [pm_nI hd (Or.inl rfl)]; show pm_gf mi pc lo (.ref a :: st) g iv idx = _; unfold pm_gf pm_ov; simp only [hm, hf, ho.1, if_false]; unfold pm_ifn; rw [if_pos ⟨hk, ho.2.1, ho.2.2.1⟩, if_neg (by rw [ho.2.2.2]; exact Bool.false_ne_true)]; rfl)
theorem at_gfR {c idx ci sl z a t : Nat} (hd : decode (pm_mb mi) pc = .ok (.getfield idx, 3)) (hm : pm_mc mi = c) (hf : pm_lft.lookup (c, idx) = some (ci, sl, z)) (ho : ¬ ci = 100 ∧ ci < 7 ∧ sl < pm_nf ci ∧ pm_rf ci sl = true) (hk : g.1 a = some (ci, 0)) (ht : g.2.1 a sl = some t) : pm_at X d mi (pc, lo, .ref a :: st, g, iv) = pm_at X d mi (pc + 3, lo, .ref t :: st, g, iv) :=
  pm_at_go (by rw [pm_nI hd (Or.inl rfl)]; show pm_gf mi pc lo (.ref a :: st) g iv idx = _; unfold pm_gf pm_ov; simp only [hm, hf, ho.1, if_false]; unfold pm_ifn; rw [if_pos ⟨hk, ho.2.1, ho.2.2.1⟩, if_pos ho.2.2.2, ht]; rfl)
theorem at_gfV {c idx z a : Nat} (hd : decode (pm_mb mi) pc = .ok (.getfield idx, 3)) (hm : pm_mc mi = c) (hf : pm_lft.lookup (c, idx) = some (100, 0, z)) (ha : 1000 ≤ a ∧ a < 1008) : pm_at X d mi (pc, lo, .ref a :: st, g, iv) = pm_at X d mi (pc + 3, lo, .ref (a + 100) :: st, g, iv) :=
  pm_at_go (by rw [pm_nI hd (Or.inl rfl)]; show pm_gf mi pc lo (.ref a :: st) g iv idx = _; unfold pm_gf; simp only [hm, hf, if_true]; exact if_pos ha)
theorem at_gfC {c idx z a : Nat} (hd : decode (pm_mb mi) pc = .ok (.getfield idx, 3)) (hm : pm_mc mi = c) (hf : pm_lft.lookup (c, idx) = some (100, 1, z)) (ha : 1000 ≤ a ∧ a < 1008) : pm_at X d mi (pc, lo, .ref a :: st, g, iv) = pm_at X d mi (pc + 3, lo, .int 0 :: st, g, iv) :=
  pm_at_go (by rw [pm_nI hd (Or.inl rfl)]; show pm_gf mi pc lo (.ref a :: st) g iv idx = _; unfold pm_gf; simp only [hm, hf, if_true]; exact if_pos ha)
theorem at_pfI {c idx ci sl z a : Nat} {x : Int32} (hd : decode (pm_mb mi) pc = .ok (.putfield idx, 3)) (hm : pm_mc mi = c) (hf : pm_lft.lookup (c, idx) = some (ci, sl, z)) (ho : ci < 7 ∧ sl < pm_nf ci ∧ pm_ff ci sl = false ∧ pm_rf ci sl = false) (hk : g.1 a = some (ci, 0)) : pm_at X d mi (pc, lo, .int x :: .ref a :: st, g, iv) = pm_at X d mi (pc + 3, lo, st, g, (pm_iw iv a sl x)) :=
  pm_at_go (by rw [pm_nI hd (Or.inl rfl)]; show pm_pf mi pc lo (.int x :: .ref a :: st) g iv idx = _; unfold pm_pf; simp only [hm, hf]; unfold pm_ifn; rw [if_pos ⟨hk, ho.1, ho.2.1, Or.inl ho.2.2.1⟩, if_pos ho.2.2.2]; rfl)
theorem at_pfR {c idx ci sl z a t : Nat} (hd : decode (pm_mb mi) pc = .ok (.putfield idx, 3)) (hm : pm_mc mi = c) (hf : pm_lft.lookup (c, idx) = some (ci, sl, z)) (ho : ci < 7 ∧ sl < pm_nf ci ∧ pm_rf ci sl = true ∧ (pm_mk mi = 2 ∧ c = ci)) (hk : g.1 a = some (ci, 0)) : pm_at X d mi (pc, lo, .ref t :: .ref a :: st, g, iv) = pm_at X d mi (pc + 3, lo, st, (g.1, pm_rw g.2.1 a sl (some t), g.2.2), iv) :=
  pm_at_go (by rw [pm_nI hd (Or.inl rfl)]; show pm_pf mi pc lo (.ref t :: .ref a :: st) g iv idx = _; unfold pm_pf; simp only [hm, hf]; unfold pm_ifn; rw [if_pos ⟨hk, ho.1, ho.2.1, Or.inr ho.2.2.2⟩, if_pos ho.2.2.1]; rfl)
theorem at_gs0 {c idx z : Nat} (hd : decode (pm_mb mi) pc = .ok (.getstatic idx, 3)) (hm : pm_mc mi = c) (hf : pm_lst.lookup (c, idx) = some (0, z)) : pm_at X d mi (pc, lo, st, g, iv) = pm_at X d mi (pc + 3, lo, .ref 1200 :: st, g, iv) :=
  pm_at_go (by rw [pm_nI hd (Or.inl rfl)]; show pm_gs mi pc lo st g iv idx = _; unfold pm_gs; simp only [hm, hf]; rfl)
theorem at_gs1 {c idx z : Nat} (hd : decode (pm_mb mi) pc = .ok (.getstatic idx, 3)) (hm : pm_mc mi = c) (hf : pm_lst.lookup (c, idx) = some (1, z)) : pm_at X d mi (pc, lo, st, g, iv) = pm_at X d mi (pc + 3, lo, .ref 1201 :: st, g, iv) :=
  pm_at_go (by rw [pm_nI hd (Or.inl rfl)]; show pm_gs mi pc lo st g iv idx = _; unfold pm_gs; simp only [hm, hf]; rfl)
theorem at_gs2 {c idx z : Nat} (hd : decode (pm_mb mi) pc = .ok (.getstatic idx, 3)) (hm : pm_mc mi = c) (hf : pm_lst.lookup (c, idx) = some (2, z)) : pm_at X d mi (pc, lo, st, g, iv) = pm_at X d mi (pc + 3, lo, .ref 1202 :: st, g, iv) :=
  pm_at_go (by rw [pm_nI hd (Or.inl rfl)]; show pm_gs mi pc lo st g iv idx = _; unfold pm_gs; simp only [hm, hf]; rfl)
theorem at_gs3 {c idx z : Nat} (hd : decode (pm_mb mi) pc = .ok (.getstatic idx, 3)) (hm : pm_mc mi = c) (hf : pm_lst.lookup (c, idx) = some (3, z)) : pm_at X d mi (pc, lo, st, g, iv) = pm_at X d mi (pc + 3, lo, .int 1 :: st, g, iv) :=
  pm_at_go (by rw [pm_nI hd (Or.inl rfl)]; show pm_gs mi pc lo st g iv idx = _; unfold pm_gs; simp only [hm, hf]; rfl)
theorem at_gs4 {c idx z : Nat} (hd : decode (pm_mb mi) pc = .ok (.getstatic idx, 3)) (hm : pm_mc mi = c) (hf : pm_lst.lookup (c, idx) = some (4, z)) : pm_at X d mi (pc, lo, st, g, iv) = pm_at X d mi (pc + 3, lo, .retAddr 0 :: st, g, iv) :=
  pm_at_go (by rw [pm_nI hd (Or.inl rfl)]; show pm_gs mi pc lo st g iv idx = _; unfold pm_gs; simp only [hm, hf]; rfl)
theorem at_aln {a q n : Nat} {f : Nat → Int32} (hd : decode (pm_mb mi) pc = .ok (.arraylength, 1)) (ha : pm_ar X g iv a = some (q, n, f)) (hn : n < 2147483648) : pm_at X d mi (pc, lo, .ref a :: st, g, iv) = pm_at X d mi (pc + 1, lo, .int (Int32.ofNat n) :: st, g, iv) :=
  pm_at_go (by rw [pm_nI hd (Or.inl rfl)]; show pm_aln X pc lo (.ref a :: st) g iv = _; unfold pm_aln; simp only [ha]; exact if_pos hn)
theorem pm_arW {a q n : Nat} (h : g.1 a = some (q, n)) (hq : 8 ≤ q) : pm_ar X g iv a = some (q, n, iv a) := by
  unfold pm_ar
  simp only [h]
  rw [if_pos hq]
theorem at_iald {a n : Nat} {i : Int32} (hd : decode (pm_mb mi) pc = .ok (.iaload, 1)) (hk : g.1 a = some (8, n)) (hi : vp_in i n) : pm_at X d mi (pc, lo, .int i :: .ref a :: st, g, iv) = pm_at X d mi (pc + 1, lo, .int (iv a i.toNatClampNeg) :: st, g, iv) :=
  pm_at_go (by rw [pm_nI hd (Or.inl rfl)]; show pm_ald X pc lo (.int i :: .ref a :: st) g iv true = _; unfold pm_ald; simp only [pm_arW hk (by decide)]; exact if_pos ⟨by first | rfl | trivial | (simp; done), hi⟩)
theorem at_xald {a n : Nat} {i : Int32} {f : Nat → Int32} (hd : decode (pm_mb mi) pc = .ok (.iaload, 1)) (hk : pm_ar X g iv a = some (8, n, f)) (hi : vp_in i n) : pm_at X d mi (pc, lo, .int i :: .ref a :: st, g, iv) = pm_at X d mi (pc + 1, lo, .int (f i.toNatClampNeg) :: st, g, iv) :=
  pm_at_go (by rw [pm_nI hd (Or.inl rfl)]; show pm_ald X pc lo (.int i :: .ref a :: st) g iv true = _; unfold pm_ald; simp only [hk]; exact if_pos ⟨by first | rfl | trivial | (simp; done), hi⟩)
theorem at_bald {a q n : Nat} {i : Int32} (hd : decode (pm_mb mi) pc = .ok (.baload, 1)) (hk : g.1 a = some (q, n)) (hq : q = 9 ∨ q = 10) (hi : vp_in i n) : pm_at X d mi (pc, lo, .int i :: .ref a :: st, g, iv) = pm_at X d mi (pc + 1, lo, .int (iv a i.toNatClampNeg) :: st, g, iv) :=
  pm_at_go (by rw [pm_nI hd (Or.inl rfl)]; show pm_ald X pc lo (.int i :: .ref a :: st) g iv false = _; unfold pm_ald; simp only [pm_arW hk (by omega)]; exact if_pos ⟨hq, hi⟩)
theorem at_xbld {a n : Nat} {i : Int32} {f : Nat → Int32} (hd : decode (pm_mb mi) pc = .ok (.baload, 1)) (hk : pm_ar X g iv a = some (9, n, f)) (hi : vp_in i n) : pm_at X d mi (pc, lo, .int i :: .ref a :: st, g, iv) = pm_at X d mi (pc + 1, lo, .int (f i.toNatClampNeg) :: st, g, iv) :=
  pm_at_go (by rw [pm_nI hd (Or.inl rfl)]; show pm_ald X pc lo (.int i :: .ref a :: st) g iv false = _; unfold pm_ald; simp only [hk]; exact if_pos ⟨by first | exact Or.inl rfl | trivial | (simp; done), hi⟩)
theorem at_iast {a n : Nat} {i x : Int32} (hd : decode (pm_mb mi) pc = .ok (.iastore, 1)) (hk : g.1 a = some (8, n)) (hi : vp_in i n) : pm_at X d mi (pc, lo, .int x :: .int i :: .ref a :: st, g, iv) = pm_at X d mi (pc + 1, lo, st, g, (pm_iw iv a i.toNatClampNeg x)) :=
  pm_at_go (by rw [pm_nI hd (Or.inl rfl)]; show pm_ast pc lo (.int x :: .int i :: .ref a :: st) g iv true = _; unfold pm_ast; simp only [hk]; exact if_pos ⟨by first | rfl | trivial | (simp; done), hi⟩)
theorem at_bast {a n : Nat} {i x : Int32} (hd : decode (pm_mb mi) pc = .ok (.bastore, 1)) (hk : g.1 a = some (9, n)) (hi : vp_in i n) : pm_at X d mi (pc, lo, .int x :: .int i :: .ref a :: st, g, iv) = pm_at X d mi (pc + 1, lo, st, g, (pm_iw iv a i.toNatClampNeg (vp_nar .byte x))) :=
  pm_at_go (by rw [pm_nI hd (Or.inl rfl)]; show pm_ast pc lo (.int x :: .int i :: .ref a :: st) g iv false = _; unfold pm_ast; simp only [hk]; exact if_pos ⟨by first | exact Or.inl rfl | trivial | (simp; done), hi⟩)
theorem at_zast {a n : Nat} {i x : Int32} (hd : decode (pm_mb mi) pc = .ok (.bastore, 1)) (hk : g.1 a = some (10, n)) (hi : vp_in i n) : pm_at X d mi (pc, lo, .int x :: .int i :: .ref a :: st, g, iv) = pm_at X d mi (pc + 1, lo, st, g, (pm_iw iv a i.toNatClampNeg (vp_nar .boolean x))) :=
  pm_at_go (by rw [pm_nI hd (Or.inl rfl)]; show pm_ast pc lo (.int x :: .int i :: .ref a :: st) g iv false = _; unfold pm_ast; simp only [hk]; exact if_pos ⟨by first | exact Or.inr rfl | trivial | (simp; done), hi⟩)
theorem at_aald {a n : Nat} {i : Int32} (hd : decode (pm_mb mi) pc = .ok (.aaload, 1)) (hk : g.1 a = some (11, n)) (hi : vp_in i n) : pm_at X d mi (pc, lo, .int i :: .ref a :: st, g, iv) = pm_at X d mi (pc + 1, lo, va_rf (g.2.1 a i.toNatClampNeg) :: st, g, iv) :=
  pm_at_go (by rw [pm_nI hd (Or.inl rfl)]; show pm_aal pc lo (.int i :: .ref a :: st) g iv = _; unfold pm_aal; simp only [hk]; exact if_pos ⟨by first | rfl | trivial | (simp; done), hi⟩)
theorem at_aast {a n t : Nat} {i : Int32} (hd : decode (pm_mb mi) pc = .ok (.aastore, 1)) (hk : g.1 a = some (11, n)) (ht : g.1 t = some (3, 0)) (hi : vp_in i n) : pm_at X d mi (pc, lo, .ref t :: .int i :: .ref a :: st, g, iv) = pm_at X d mi (pc + 1, lo, st, (g.1, pm_rw g.2.1 a i.toNatClampNeg (some t), g.2.2), iv) :=
  pm_at_go (by rw [pm_nI hd (Or.inl rfl)]; show pm_aas pc lo (.ref t :: .int i :: .ref a :: st) g iv = _; unfold pm_aas; simp only [hk]; exact if_pos ⟨by first | rfl | trivial | (simp; done), ht, hi⟩)
theorem at_new {c idx ci z : Nat} (hd : decode (pm_mb mi) pc = .ok (.new idx, 3)) (hm : pm_mc mi = c) (hf : pm_lct.lookup (c, idx) = some (ci, z)) (hn : g.1 g.2.2.1 = none ∧ g.2.2.1 < 1000) : pm_at X d mi (pc, lo, st, g, iv) = pm_at X d mi (pc + 3, lo, .ref g.2.2.1 :: st, (pm_nc g ci 0 (pm_nf ci)), (pm_ir iv g.2.2.1 (fun _ => 0))) :=
  pm_at_go (by rw [pm_nI hd (Or.inl rfl)]; show pm_new mi pc lo st g iv idx = _; unfold pm_new; simp only [hm, hf]; exact if_pos hn)
theorem at_nwa {t : ArrayType} {n : Int32} {q k : Nat} (hd : decode (pm_mb mi) pc = .ok (.newarray t, 2)) (hq : pm_aq t = q) (h8 : 8 ≤ q) (h0 : ¬ n < 0) (hk : n.toNatClampNeg = k) (hk2 : k ≤ 1000000) (hn : g.1 g.2.2.1 = none ∧ g.2.2.1 < 1000) : pm_at X d mi (pc, lo, .int n :: st, g, iv) = pm_at X d mi (pc + 2, lo, .ref g.2.2.1 :: st, (pm_nc g q k k), (pm_ir iv g.2.2.1 (fun _ => 0))) :=
  pm_at_go (by rw [pm_nI hd (Or.inl rfl)]; subst hq; subst hk; exact if_pos ⟨hn.1, hn.2, h8, h0, hk2⟩)
theorem at_ana {c idx z : Nat} {n : Int32} {k : Nat} (hd : decode (pm_mb mi) pc = .ok (.anewarray idx, 3)) (hm : pm_mc mi = c) (hf : pm_lct.lookup (c, idx) = some (3, z)) (h0 : ¬ n < 0) (hk : n.toNatClampNeg = k) (hk2 : k ≤ 1000000) (hn : g.1 g.2.2.1 = none ∧ g.2.2.1 < 1000) : pm_at X d mi (pc, lo, .int n :: st, g, iv) = pm_at X d mi (pc + 3, lo, .ref g.2.2.1 :: st, (pm_nc g 11 k k), (pm_ir iv g.2.2.1 (fun _ => 0))) :=
  pm_at_go (by rw [pm_nI hd (Or.inl rfl)]; subst hk; show pm_ana mi pc lo (.int n :: st) g iv idx = _; unfold pm_ana; simp only [hm, hf]; exact if_pos ⟨by first | rfl | trivial | (simp; done), hn.1, hn.2, h0, hk2⟩)
theorem at_ldc {c idx z : Nat} {v : Int32} (hd : decode (pm_mb mi) pc = .ok (.ldc idx, 2)) (hm : pm_mc mi = c) (hf : pm_lkt.lookup (c, idx) = some (v, z)) : pm_at X d mi (pc, lo, st, g, iv) = pm_at X d mi (pc + 2, lo, .int v :: st, g, iv) :=
  pm_at_go (by rw [pm_nI hd (Or.inl rfl)]; show (match pm_lkt.lookup (pm_mc mi, idx) with | some _ => pm_kI mi pc lo st g iv 2 idx | none => pm_kS mi pc lo st g iv idx) = _; unfold pm_kI; simp only [hm, hf]; rfl)
theorem at_ldcw {c idx z : Nat} {v : Int32} (hd : decode (pm_mb mi) pc = .ok (.ldc_w idx, 3)) (hm : pm_mc mi = c) (hf : pm_lkt.lookup (c, idx) = some (v, z)) : pm_at X d mi (pc, lo, st, g, iv) = pm_at X d mi (pc + 3, lo, .int v :: st, g, iv) :=
  pm_at_go (by rw [pm_nI hd (Or.inl rfl)]; show pm_kI mi pc lo st g iv 3 idx = _; unfold pm_kI; simp only [hm, hf]; rfl)
theorem at_ldcS {c idx k : Nat} (hd : decode (pm_mb mi) pc = .ok (.ldc idx, 2)) (hm : pm_mc mi = c) (hf0 : pm_lkt.lookup (c, idx) = none) (hf : pm_ltt.lookup (c, idx) = some k) : pm_at X d mi (pc, lo, st, g, iv) = pm_at X d mi (pc + 2, lo, .ref (1000 + k) :: st, g, iv) :=
  pm_at_go (by rw [pm_nI hd (Or.inl rfl)]; show (match pm_lkt.lookup (pm_mc mi, idx) with | some _ => pm_kI mi pc lo st g iv 2 idx | none => pm_kS mi pc lo st g iv idx) = _; unfold pm_kS; simp only [hm, hf0, hf]; rfl)
theorem at_ldc2 {c idx z : Nat} {v : Int64} (hd : decode (pm_mb mi) pc = .ok (.ldc2_w idx, 3)) (hm : pm_mc mi = c) (hf : pm_llt.lookup (c, idx) = some (v, z)) : pm_at X d mi (pc, lo, st, g, iv) = pm_at X d mi (pc + 3, lo, .long v :: st, g, iv) :=
  pm_at_go (by rw [pm_nI hd (Or.inl rfl)]; show pm_kL mi pc lo st g iv idx = _; unfold pm_kL; simp only [hm, hf]; rfl)
theorem at_objI {c idx t n z a : Nat} (hd : decode (pm_mb mi) pc = .ok (.invokespecial idx, 3)) (hm : pm_mc mi = c) (hf : pm_lmt.lookup (c, idx) = some (5, t, n, z)) (hs : pm_cs st ≤ 8) : pm_at X d mi (pc, lo, .ref a :: st, g, iv) = pm_at X d mi (pc + 3, lo, st, g, iv) :=
  pm_at_go (by rw [pm_nI hd (Or.inl rfl)]; show pm_isp _ mi pc lo (.ref a :: st) g iv idx = _; unfold pm_isp; simp only [hm, hf]; exact if_pos hs)
theorem at_acpy {c idx t n z a a0 n0 n1 : Nat} {k dp sp : Int32} (hd : decode (pm_mb mi) pc = .ok (.invokestatic idx, 3)) (hm : pm_mc mi = c) (hf : pm_lmt.lookup (c, idx) = some (6, t, n, z)) (hs : pm_cs st ≤ 8) (h0 : g.1 a0 = some (8, n0)) (h1 : g.1 a = some (8, n1)) (hc : ¬ sp < 0 ∧ ¬ dp < 0 ∧ ¬ k < 0 ∧ sp.toNatClampNeg + k.toNatClampNeg ≤ n0 ∧ dp.toNatClampNeg + k.toNatClampNeg ≤ n1) : pm_at X d mi (pc, lo, .int k :: .int dp :: .ref a :: .int sp :: .ref a0 :: st, g, iv) = pm_at X d mi (pc + 3, lo, st, g, (pm_ir iv a (va_cpy (iv a0) (iv a) sp.toNatClampNeg dp.toNatClampNeg k.toNatClampNeg))) :=
  pm_at_go (by rw [pm_nI hd (Or.inl rfl)]; show pm_ins _ mi pc lo (.int k :: .int dp :: .ref a :: .int sp :: .ref a0 :: st) g iv idx = _; unfold pm_ins; simp only [hm, hf, h0, h1]; exact if_pos ⟨hs, by first | rfl | trivial | (simp; done), by first | rfl | trivial | (simp; done), hc⟩)
theorem at_mmin {c idx t n z : Nat} {x y : Int32} (hd : decode (pm_mb mi) pc = .ok (.invokestatic idx, 3)) (hm : pm_mc mi = c) (hf : pm_lmt.lookup (c, idx) = some (7, t, n, z)) (hs : pm_cs st ≤ 8) : pm_at X d mi (pc, lo, .int y :: .int x :: st, g, iv) = pm_at X d mi (pc + 3, lo, .int (if y < x then y else x) :: st, g, iv) :=
  pm_at_go (by rw [pm_nI hd (Or.inl rfl)]; show pm_ins _ mi pc lo (.int y :: .int x :: st) g iv idx = _; unfold pm_ins; simp only [hm, hf]; exact if_pos hs)
theorem at_mabs {c idx t n z : Nat} {x : Int32} (hd : decode (pm_mb mi) pc = .ok (.invokestatic idx, 3)) (hm : pm_mc mi = c) (hf : pm_lmt.lookup (c, idx) = some (8, t, n, z)) (hs : pm_cs st ≤ 8) : pm_at X d mi (pc, lo, .int x :: st, g, iv) = pm_at X d mi (pc + 3, lo, .int (if 0 ≤ x then x else 0 - x) :: st, g, iv) :=
  pm_at_go (by rw [pm_nI hd (Or.inl rfl)]; show pm_ins _ mi pc lo (.int x :: st) g iv idx = _; unfold pm_ins; simp only [hm, hf]; exact if_pos hs)
theorem at_bk {r : List Value} {q : Option pm_R} (h : pm_n X (pm_c X d) mi (pc, lo, st, g, iv) = pm_bk pc lo r q) : pm_at X d mi (pc, lo, st, g, iv) = pm_then X d mi (pc + 3) lo r q := by
  cases q with
  | none => exact pm_at_none h
  | some v =>
    obtain ⟨v, g', iv'⟩ := v
    exact pm_at_go h
theorem at_inv {c idx t n z b : Nat} {r as : List Value} (hd : decode (pm_mb mi) pc = .ok (.invokevirtual idx, 3)) (hm : pm_mc mi = c) (hf : pm_lmt.lookup (c, idx) = some (0, t, n, z)) (hr : st.drop n = .ref b :: r) (ha : (st.take n).reverse = as) (hs : pm_cs r ≤ 8) (hk : (g.1 b = some (pm_mc t, 0) ∧ pm_mc t < 7) ∨ (pm_mc t = 10 ∧ 1000 ≤ b ∧ b < 1008)) : pm_at X d mi (pc, lo, st, g, iv) = pm_then X d mi (pc + 3) lo r (pm_c X d t (.ref b :: as) g iv) :=
  at_bk (by rw [pm_nI hd (Or.inl rfl)]; show pm_inv _ mi pc lo st g iv idx = _; unfold pm_inv; simp only [hm, hf, hr, ha]; exact if_pos ⟨hs, hk⟩)
theorem at_ins {c idx t n z : Nat} {r as : List Value} (hd : decode (pm_mb mi) pc = .ok (.invokestatic idx, 3)) (hm : pm_mc mi = c) (hf : pm_lmt.lookup (c, idx) = some (1, t, n, z)) (hn : n ≤ st.length) (hr : st.drop n = r) (ha : (st.take n).reverse = as) (hs : pm_cs r ≤ 8) : pm_at X d mi (pc, lo, st, g, iv) = pm_then X d mi (pc + 3) lo r (pm_c X d t as g iv) :=
  at_bk (by rw [pm_nI hd (Or.inl rfl)]; show pm_ins _ mi pc lo st g iv idx = _; unfold pm_ins; simp only [hm, hf, hr, ha]; exact if_pos ⟨hn, hs⟩)
theorem at_insN {c idx t n z : Nat} {r as : List Value} (hd : decode (pm_mb mi) pc = .ok (.invokestatic idx, 3)) (hm : pm_mc mi = c) (hf : pm_lmt.lookup (c, idx) = some (3, t, n, z)) (hn : n ≤ st.length) (hr : st.drop n = r) (ha : (st.take n).reverse = as) (hs : pm_cs r ≤ 8) : pm_at X d mi (pc, lo, st, g, iv) = pm_then X d mi (pc + 3) lo r (pm_c X d t as g iv) :=
  at_bk (by rw [pm_nI hd (Or.inl rfl)]; show pm_ins _ mi pc lo st g iv idx = _; unfold pm_ins; simp only [hm, hf, hr, ha]; exact if_pos ⟨hn, hs⟩)
theorem at_isp {c idx t n z b : Nat} {r as : List Value} (hd : decode (pm_mb mi) pc = .ok (.invokespecial idx, 3)) (hm : pm_mc mi = c) (hf : pm_lmt.lookup (c, idx) = some (2, t, n, z)) (hr : st.drop n = .ref b :: r) (ha : (st.take n).reverse = as) (hs : pm_cs r ≤ 8) : pm_at X d mi (pc, lo, st, g, iv) = pm_then X d mi (pc + 3) lo r (pm_c X d t (.ref b :: as) g iv) :=
  at_bk (by rw [pm_nI hd (Or.inl rfl)]; show pm_isp _ mi pc lo st g iv idx = _; unfold pm_isp; simp only [hm, hf, hr, ha]; exact if_pos hs)
theorem at_ispN {c idx t n z b : Nat} {r as : List Value} (hd : decode (pm_mb mi) pc = .ok (.invokespecial idx, 3)) (hm : pm_mc mi = c) (hf : pm_lmt.lookup (c, idx) = some (4, t, n, z)) (hr : st.drop n = .ref b :: r) (ha : (st.take n).reverse = as) (hs : pm_cs r ≤ 8) : pm_at X d mi (pc, lo, st, g, iv) = pm_then X d mi (pc + 3) lo r (pm_c X d t (.ref b :: as) g iv) :=
  at_bk (by rw [pm_nI hd (Or.inl rfl)]; show pm_isp _ mi pc lo st g iv idx = _; unfold pm_isp; simp only [hm, hf, hr, ha]; exact if_pos hs)
theorem at_iret {x : Int32} (hd : decode (pm_mb mi) pc = .ok (.ireturn, 1)) (hr : pm_mr mi = some .int) : pm_at X d mi (pc, lo, [.int x], g, iv) = some (some (.int x), g, iv) :=
  pm_at_end (by rw [pm_nI hd (Or.inl rfl)]; show pm_ri mi [.int x] g iv = _; unfold pm_ri; simp only [hr]; exact if_pos rfl)
/-- a truth that comes back is 0 or 1 -/
def pm_zr (x : Int32) (q : Option pm_R) : Option pm_R := if x = 0 ∨ x = 1 then q else none
theorem pm_zr0 {q : Option pm_R} : pm_zr 0 q = q := rfl
theorem pm_zr1 {q : Option pm_R} : pm_zr 1 q = q := rfl
theorem pm_zrI {c : Prop} [Decidable c] {q : Option pm_R} : pm_zr (if c then 1 else 0) q = q := by
  by_cases h : c
  · rw [if_pos h]; rfl
  · rw [if_neg h]; rfl
theorem at_zret {x : Int32} (hd : decode (pm_mb mi) pc = .ok (.ireturn, 1)) (hr : pm_mr mi = some .boolean) (hx : x = 0 ∨ x = 1) : pm_at X d mi (pc, lo, [.int x], g, iv) = some (some (.int x), g, iv) :=
  pm_at_end (by rw [pm_nI hd (Or.inl rfl)]; show pm_ri mi [.int x] g iv = _; unfold pm_ri; simp only [hr]; exact if_pos (by rcases hx with rfl | rfl <;> rfl))
theorem at_tret {x : Int32} {ty : FieldType} (hd : decode (pm_mb mi) pc = .ok (.ireturn, 1)) (hr : pm_mr mi = some ty) (hx : narrow ty (.int x) = .int x) : pm_at X d mi (pc, lo, [.int x], g, iv) = some (some (.int x), g, iv) :=
  pm_at_end (by rw [pm_nI hd (Or.inl rfl)]; show pm_ri mi [.int x] g iv = _; unfold pm_ri; simp only [hr]; exact if_pos hx)
theorem at_lret {x : Int64} (hd : decode (pm_mb mi) pc = .ok (.lreturn, 1)) (hr : pm_mr mi = some .long) : pm_at X d mi (pc, lo, [.long x], g, iv) = some (some (.long x), g, iv) :=
  pm_at_end (by rw [pm_nI hd (Or.inl rfl)]; show pm_rl mi [.long x] g iv = _; unfold pm_rl; exact if_pos hr)
theorem at_vret (hd : decode (pm_mb mi) pc = .ok (.return_, 1)) (hr : pm_mr mi = none) : pm_at X d mi (pc, lo, [], g, iv) = some (none, g, iv) :=
  pm_at_end (by rw [pm_nI hd (Or.inl rfl)]; show pm_rv mi [] g iv = _; unfold pm_rv; exact if_pos hr)
end AT
end
section
/-- THE LAW in the small machine (owed) -/
theorem pm_law (X : pm_X) (hL : X.1 ≤ 3072) : ∃ g' iv', pm_at X 40 211 (0, [some (.ref 1300), none, none, none], [], (fun _ => none, fun _ _ => none, 0, 0, 0), fun _ _ => 0) = some (some (.int 1), g', iv') ∧ g'.2.2.2.1 ≤ 600000 ∧ g'.2.2.2.2 ≤ 7302250 := sorry
def pm_g0 : pm_G := (fun _ => none, fun _ _ => none, 0, 0, 0)
/-- the law's method among the methods of the small machine -/
theorem pm_lawB : pm_mb 211 = code := rfl
theorem pm_lawL : pm_ml 211 = 4 := rfl
theorem pm_lawC : pm_cn (pm_mc 211) = R_law := rfl
set_option maxRecDepth 20000 in
theorem pm_lawK : ¬ pm_mk 211 = 2 := by decide +kernel
set_option maxHeartbeats 1000000 in
/-- YOUR PART: from the entry, for every script of at most 3072 ints, the law comes to its end with true ('hflags': the launch's flags, for a law that throws: no stack traces) -/
theorem whole_start {p : Program} {e : Env} {s : State} {m : MethodId} {below : List Frame} {meth : Method} {c : Code} (l : Launch) (hflags : l.flags = flags0) {b L : Nat} {xs : Nat → Int32} (hL : L ≤ 3072) (C0 : lw_At p s m meth c b L xs) : W p l e room_1 s m #[Value.ref b] below meth c s.heap [] 0 0 (lw_Z below #[Value.ref b] s) (entryFrame m ([Value.ref b] : List Value).toArray 4) := by
  obtain ⟨hx, hb, hr, hml, hown, hts, hX, hbl, hlocks, hgv⟩ := C0
  obtain ⟨qv, ad, had, hE⟩ := pm_env0 hts hX hbl hgv
  have hq := hE.2.2.2.2.1
  have hTB : ∀ w ∈ pm_TB, w.before #[Value.ref b] s = true := fun w hw => hts w (List.mem_filter.mp hw).1
  have hkn : ∀ ci : Nat, ∃ q : ClassId × (Nat → Nat), ci < 7 → u_Kn s (pm_cn ci) (pm_T ci) (pm_nf ci) q.1 q.2 := by
    intro ci
    by_cases hci : ci < 7
    · obtain ⟨cC, iS, h⟩ := u_known (C := pm_cn ci) (T := pm_T ci) (N := pm_nf ci) (n := pm_nf ci) hTB (pm_c_lay hci) (hTB _ (pm_c_ins hci))
      exact ⟨(cC, iS), fun _ => h⟩
    · exact ⟨(0, fun _ => 0), fun h => absurd h hci⟩
  obtain ⟨qs, hqs⟩ := Classical.axiomOfChoice hkn
  have hK : va_K (fun k => (qs k).1, fun k => (qs k).2) pm_cl [] s := by
    refine ⟨fun k x hx => ?_, fun k x h => by simp at h⟩
    have hk : k < 7 := (List.getElem?_eq_some_iff.mp hx).1
    rw [pm_cl_at k hk] at hx
    cases hx
    exact hqs k hk
  obtain ⟨g', iv', hat, hc, hs⟩ := pm_law (L, xs) hL
  obtain ⟨n, hn⟩ := pm_at_ex hat
  have hC : pm_Cx (L, xs) qv (fun k => (qs k).1, fun k => (qs k).2) (fun q : Nat => s.heap.size ≤ q) ad 211 p room_1 s m #[Value.ref b] meth c :=
    ⟨hx, by rw [pm_lawB]; exact hb, by rw [pm_lawL]; exact hml, by rw [pm_lawC]; exact hown, hTB, fun h => absurd h pm_lawK, hK, hE, fun _ h => h, by decide, by decide⟩
  have run := pm_run (X := (L, xs)) (Q := lw_Z below #[Value.ref b] s) (gI := pm_g0) (e := e) (below := below) (l := l) hC (pm_c_ck 40) (pm_snd 40) ⟨by decide, by decide⟩ (by show g'.2.2.2.1 ≤ 0 + 600000 ∧ g'.2.2.2.2 ≤ 0 + 7302250; omega) ?_ n _ hn ⟨fun k sl t h => (by cases h), fun v hv => (by cases hv), fun v hv => ?_⟩ ad (fun _ => 0) [] s.heap [] 0 0
  · have hl := pm_entry (ad := ad) hq [.ref 1300] (n := 4) (by decide)
    rw [lg_entry_eq]
    have hl : pm_Ls ad qv ((lg_sl ([Value.ref b]) ++ List.replicate (4 - (lg_sl ([Value.ref b])).length) Slot.unset).toArray) 4 [some (.ref 1300), none, none, none] := by
      rw [← had]
      exact hl
    exact run _ (fun _ _ => rfl) (fun _ h => h) hl ⟨fun k => by simp [pm_g0], List.nodup_nil, fun k h => (by cases h), fun k q h => by simp at h, ⟨fun i j p q h => by simp at h, fun k q h => by simp at h⟩, fun k q n h => by cases h⟩ va_S.rf rfl rfl
  · intro S hS
    intro ad' ca' L' H locs cells slots ls hag hpe hls hW' hS' hc' hs'
    rcases pm_n_end hS with ⟨x, h1, -, h3, h4⟩ | ⟨x, -, -, h3, -⟩ | ⟨-, -, h3, -⟩
    · rw [h1]
      cases h3
      have hc2 : cells + 0 = S.2.2.2.1.2.2.2.1 := hc'
      have hs2 : slots + 0 = S.2.2.2.1.2.2.2.2 := hs'
      refine va_forget (fun q hq => hS'.2.2 q hq) ?_
      refine W.widen (k := 600000) (n := 7302250) (by omega) (by omega) ?_
      exact lw_ret hx hb hr hlocks (by rw [← pm_lawB]; exact h4)
    · cases h3
    · cases h3
  · rcases List.mem_cons.mp hv with h | h
    · cases h
      exact pm_okX (by decide)
    · simp at h
end
section
set_option maxHeartbeats 4000000 in
theorem lw_walk (l : Launch) (hflags : l.flags = flags0) (b : Addr) (xs : List Int32) : MetFree l x (headSpec (Jvm.Cond.code x code maxLocals ret :: tables_1) room_1) (lw_P b xs) (fun _ _ _ _ _ => True) lw_Q := by
  refine MetFree.of_bodyS (code := code) (maxLocals := maxLocals) (ret := ret) (by decide) ?_ ?_
  · intro args s m h hn
    obtain ⟨meth, c, h1, h2, h3, h4, h5, h6, -, -⟩ := Cond.code_spec hn (atoms_spec (ws := Jvm.Cond.code x code maxLocals ret :: tables_1) h _ List.mem_cons_self)
    exact ⟨meth, c, h1, h2, h3, h4, h5, h6⟩
  · intro p e s m args below meth c s₁ B hml0 hP _
    obtain ⟨rfl, hx, hbd, hgv⟩ := hP
    obtain ⟨scr, harrAt, hlist, hof, hsmall⟩ := hx
    obtain ⟨hcb, hkn, -, -⟩ := State.arrayAt?_spec harrAt
    have hown : s.vm.findClass R_law = some m.cls := findClass_of_methodNamed B.named
    have hts0 : ∀ c ∈ (Jvm.Cond.code x code maxLocals ret :: tables_1), c.before #[Value.ref b] s = true := atoms_spec (ws := Jvm.Cond.code x code maxLocals ret :: tables_1) B.pre
    have hts : ∀ w ∈ lw_tbl, w.before #[Value.ref b] s = true := k2_hts_sels lw_privs (fun w hw => hts0 w (List.mem_cons_of_mem _ hw)) lw_privs_ok
    have hml : c.maxLocals = 4 := B.maxLocals_eq (hts0 _ List.mem_cons_self)
    have X₀ : Stand p l e room_1 s m #[Value.ref b] below meth c s₁ [] 0 0 := Stand.of_body B
    have hh0 : s₁.heap = s.heap := by rw [B.state]; rfl
    have hsz : scr.slots.size = xs.length := by rw [← Array.length_toList, hlist, List.length_map]
    have hval : ∀ j : Nat, j < xs.length → scr.slots[j]? = some (.int (xs.getD j 0)) := fun j hj => by
      rw [← Array.getElem?_toList, hlist]
      simp [hj]
    have hbl : b < s.heap.size := (Array.getElem?_eq_some_iff.mp hcb).1
    have hX : va_X b xs.length (fun j => xs.getD j 0) s s.heap := ⟨scr, hcb, hof, hkn, hsz, hval⟩
    have K : W p l e room_1 s m #[Value.ref b] below meth c s₁.heap [] 0 0 (lw_Z below #[Value.ref b] s) (entryFrame m ([Value.ref b] : List Value).toArray 4) := by
      rw [hh0]
      exact whole_start l hflags hbd ⟨B.exec, B.bytes, B.returns, hml, hown, hts, hX, hbl, B.notSynchronized, hgv⟩
    obtain ⟨t, a1, o, b1, b2, b3⟩ := K s₁ rfl X₀
    exact ⟨t, o, a1, b1, b2, b3⟩
theorem lw_pre_spec {args : Array Value} {s : State} (h : (Jvm.Cond.and given_1 narrow_1).before args s = true) (hr : rest_1_c.before args s = true) : ∃ (b : Addr) (xs : List Int32), lw_P b xs args s := by
  have hs := flat_of_before _ h
  have hq := flat_of_before _ hr
  have hc : (Cond.count 1).before args s = true := hs _ (by decide +kernel)
  have harr : (Cond.arrayOf (.arg 0) .int).before args s = true := hs _ (by decide +kernel)
  have hle : (Cond.le (.length (.arg 0)) (.int 3072)).before args s = true := hs _ (by decide +kernel)
  have hlen : (Cond.isInt (.length (.arg 0))).before args s = true := hq _ (by decide +kernel)
  have hall : (Cond.all (.arg 0) (.isInt (.elem (.arg 0) (.index 0)))).before args s = true := hq _ (by decide +kernel)
  obtain ⟨b, xs, hb, hx⟩ := State.ints_of_pre rfl harr hlen hall
  have hsm : xs.length < 2 ^ 31 := hx.choose_spec.2.2.2
  have hev : (Term.length (.arg 0)).eval args s none [] s = some (.int xs.length.toInt32) := hx.length_eval hb
  have hv := Cond.le_ints hev (show (Term.int 3072).eval args s none [] s = some (.int 3072) from rfl)
  have hd : xs.length.toInt32 ≤ 3072 := by
    simpa [Cond.before, Cond.holds, hv] using hle
  have hN : xs.length ≤ 3072 := (Int32.ofNat_le_ofNat hsm (by decide)).mp (show Int32.ofNat xs.length ≤ Int32.ofNat 3072 from hd)
  exact ⟨b, xs, Cond.one_arg hc (show args[0]? = some (.ref b) from hb), hx, hN, h⟩
theorem lw_comes (l : Launch) (hflags : l.flags = flags0) : Comes l x (Jvm.Cond.code x code maxLocals ret :: tables_1) room_1 (fun tb e args s => Calls_1 tb e args s ∧ rest_1 tb e args s ∧ Pre_1 tb e args s)
    (fun _ _ args s o t => lw_Q args s o t) := by
  intro p e ha hc hk s m args below hf hfit hheap happ hpre
  obtain ⟨b, xs, hP⟩ := lw_pre_spec hpre.2.2 hpre.2.1
  obtain ⟨k, o, h1, h2, h3, hQ⟩ := lw_walk l hflags b xs p e ha hc hk s m args below hf ((Spec.applies_iff_loose hf).mp happ).1 hP trivial
  exact ⟨k, o, h1, h2, h3, hQ⟩
theorem lw_frame {s t : State} {o : Outcome} {args : Array Value} (h : Framed s o t [] 600000 7302250) :
    Framed s o t (fieldLocs frame_1_writes args s ++ arrayLocs frame_1_arrays args s ++ staticLocs frame_1_statics s) 600000 7302250 := h
theorem lw_limb (L : Cond) (hL : ∀ (args : Array Value) (s t : State), L.after args s (.returned (some (.int 1))) t = true) :
    ArmFor flags0 classFile x code maxLocals ret World_1 tables_1 room_1 Calls_1 rest_1 Pre_1
      (fun tb e a s o t => postC L tb e a s o t ∧ Framed s o t (fieldLocs frame_1_writes a s ++ arrayLocs frame_1_arrays a s ++ staticLocs frame_1_statics s) 600000 7302250) := by
  intro l hflags _ _ p e ha hc hk s m args below hf hfit hheap happ hpre
  obtain ⟨k, o, h1, h2, h3, rfl, hF⟩ := lw_comes l hflags p e ha hc hk s m args below hf hfit hheap happ hpre
  exact ⟨k, _, h1, h2, h3, hL args s _, lw_frame hF⟩
theorem i_vc : Claimed_1_1 ∧ Claimed_1_2 := ⟨lw_limb limb_1_1 (fun args s t => by simp [limb_1_1, Cond.after, Cond.holds, Cond.value]), lw_limb limb_1_2 (fun args s t => Cond.after_iff.mpr (by
  first | (rw [show limb_1_2 = Cond.eq .result (.int 1) from rfl, Cond.eq_ints (x := 1) (y := 1) rfl rfl]; simp; done) | (simp [limb_1_2, Cond.value, Term.eval]; done)))⟩
end
