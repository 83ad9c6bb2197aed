-- ===== PART A: goes FIRST, ahead of the names: the tables' words, and 'selects' of the private methods out of them =====
/-- a private method of a class that the tables say can be made, by its rows of tables_1 -/
def lw_okq (q : MethodName × Nat) : Prop := (q.1.cls ≠ "java/lang/invoke/MethodHandle" ∧ q.1.cls ≠ "java/lang/invoke/VarHandle") ∧ Cond.instantiable q.1.cls q.2 ∈ tables_1 ∧ Cond.privateMethod q.1 ∈ tables_1 ∧ Cond.instanceMethod q.1 ∈ tables_1
theorem lw_p0 : lw_okq (⟨"ChairTooFew", "refuse", "(I)I"⟩, 8) := ⟨⟨by decide +kernel, by decide +kernel⟩, List.mem_of_getElem? (i := 19) (by decide +kernel), List.mem_of_getElem? (i := 307) (by decide +kernel), List.mem_of_getElem? (i := 308) (by decide +kernel)⟩
theorem lw_p1 : lw_okq (⟨"ChairTooFew$Text", "begin", "()V"⟩, 6) := ⟨⟨by decide +kernel, by decide +kernel⟩, List.mem_of_getElem? (i := 250) (by decide +kernel), List.mem_of_getElem? (i := 327) (by decide +kernel), List.mem_of_getElem? (i := 328) (by decide +kernel)⟩
theorem lw_p2 : lw_okq (⟨"ChairTooFew$Text", "readStatement", "()Z"⟩, 6) := ⟨⟨by decide +kernel, by decide +kernel⟩, List.mem_of_getElem? (i := 250) (by decide +kernel), List.mem_of_getElem? (i := 331) (by decide +kernel), List.mem_of_getElem? (i := 332) (by decide +kernel)⟩
theorem lw_p3 : lw_okq (⟨"ChairTooFew$Text", "signAhead", "()I"⟩, 6) := ⟨⟨by decide +kernel, by decide +kernel⟩, List.mem_of_getElem? (i := 250) (by decide +kernel), List.mem_of_getElem? (i := 335) (by decide +kernel), List.mem_of_getElem? (i := 336) (by decide +kernel)⟩
theorem lw_p4 : lw_okq (⟨"ChairTooFew$Text", "readPart", "(C)Z"⟩, 6) := ⟨⟨by decide +kernel, by decide +kernel⟩, List.mem_of_getElem? (i := 250) (by decide +kernel), List.mem_of_getElem? (i := 396) (by decide +kernel), List.mem_of_getElem? (i := 397) (by decide +kernel)⟩
theorem lw_p5 : lw_okq (⟨"ChairTooFew$Text", "readDigits", "(I)Z"⟩, 6) := ⟨⟨by decide +kernel, by decide +kernel⟩, List.mem_of_getElem? (i := 250) (by decide +kernel), List.mem_of_getElem? (i := 400) (by decide +kernel), List.mem_of_getElem? (i := 401) (by decide +kernel)⟩
theorem lw_p6 : lw_okq (⟨"ChairTooFew$Text", "comesTrue", "(ILChairTooFew$Party;)Z"⟩, 6) := ⟨⟨by decide +kernel, by decide +kernel⟩, List.mem_of_getElem? (i := 250) (by decide +kernel), List.mem_of_getElem? (i := 435) (by decide +kernel), List.mem_of_getElem? (i := 436) (by decide +kernel)⟩
theorem lw_p7 : lw_okq (⟨"ChairTooFew$Text", "resize", "(LChairTooFew$Party;)Z"⟩, 6) := ⟨⟨by decide +kernel, by decide +kernel⟩, List.mem_of_getElem? (i := 250) (by decide +kernel), List.mem_of_getElem? (i := 439) (by decide +kernel), List.mem_of_getElem? (i := 440) (by decide +kernel)⟩
theorem lw_p8 : lw_okq (⟨"ChairTooFew$Text", "seatMore", "(LChairTooFew$Party;)Z"⟩, 6) := ⟨⟨by decide +kernel, by decide +kernel⟩, List.mem_of_getElem? (i := 250) (by decide +kernel), List.mem_of_getElem? (i := 446) (by decide +kernel), List.mem_of_getElem? (i := 447) (by decide +kernel)⟩
theorem lw_p9 : lw_okq (⟨"ChairTooFew$Text", "walkerMore", "(LChairTooFew$Party;)Z"⟩, 6) := ⟨⟨by decide +kernel, by decide +kernel⟩, List.mem_of_getElem? (i := 250) (by decide +kernel), List.mem_of_getElem? (i := 470) (by decide +kernel), List.mem_of_getElem? (i := 471) (by decide +kernel)⟩
theorem lw_p10 : lw_okq (⟨"ChairTooFew$Party", "mark", "(IZ)V"⟩, 10) := ⟨⟨by decide +kernel, by decide +kernel⟩, List.mem_of_getElem? (i := 33) (by decide +kernel), List.mem_of_getElem? (i := 491) (by decide +kernel), List.mem_of_getElem? (i := 492) (by decide +kernel)⟩
theorem lw_p11 : lw_okq (⟨"ChairTooFew$Text", "newPlayer", "(LChairTooFew$Party;)Z"⟩, 6) := ⟨⟨by decide +kernel, by decide +kernel⟩, List.mem_of_getElem? (i := 250) (by decide +kernel), List.mem_of_getElem? (i := 495) (by decide +kernel), List.mem_of_getElem? (i := 496) (by decide +kernel)⟩
theorem lw_p12 : lw_okq (⟨"ChairTooFew$Text", "newForm", "(LChairTooFew$Party;)Z"⟩, 6) := ⟨⟨by decide +kernel, by decide +kernel⟩, List.mem_of_getElem? (i := 250) (by decide +kernel), List.mem_of_getElem? (i := 504) (by decide +kernel), List.mem_of_getElem? (i := 505) (by decide +kernel)⟩
theorem lw_p13 : lw_okq (⟨"ChairTooFew$Party", "walk", "(LChairTooFew$Walker;)V"⟩, 10) := ⟨⟨by decide +kernel, by decide +kernel⟩, List.mem_of_getElem? (i := 33) (by decide +kernel), List.mem_of_getElem? (i := 602) (by decide +kernel), List.mem_of_getElem? (i := 603) (by decide +kernel)⟩
theorem lw_p14 : lw_okq (⟨"ChairTooFew$Party", "isLikedAtChair", "()Z"⟩, 10) := ⟨⟨by decide +kernel, by decide +kernel⟩, List.mem_of_getElem? (i := 33) (by decide +kernel), List.mem_of_getElem? (i := 613) (by decide +kernel), List.mem_of_getElem? (i := 614) (by decide +kernel)⟩
theorem lw_p15 : lw_okq (⟨"ChairTooFew$Seating", "measure", "(LChairTooFew$Party;)V"⟩, 5) := ⟨⟨by decide +kernel, by decide +kernel⟩, List.mem_of_getElem? (i := 92) (by decide +kernel), List.mem_of_getElem? (i := 629) (by decide +kernel), List.mem_of_getElem? (i := 630) (by decide +kernel)⟩
def lw_privs_1 : List (MethodName × Nat) := [(⟨"ChairTooFew", "refuse", "(I)I"⟩, 8), (⟨"ChairTooFew$Text", "begin", "()V"⟩, 6), (⟨"ChairTooFew$Text", "readStatement", "()Z"⟩, 6), (⟨"ChairTooFew$Text", "signAhead", "()I"⟩, 6), (⟨"ChairTooFew$Text", "readPart", "(C)Z"⟩, 6), (⟨"ChairTooFew$Text", "readDigits", "(I)Z"⟩, 6), (⟨"ChairTooFew$Text", "comesTrue", "(ILChairTooFew$Party;)Z"⟩, 6), (⟨"ChairTooFew$Text", "resize", "(LChairTooFew$Party;)Z"⟩, 6), (⟨"ChairTooFew$Text", "seatMore", "(LChairTooFew$Party;)Z"⟩, 6), (⟨"ChairTooFew$Text", "walkerMore", "(LChairTooFew$Party;)Z"⟩, 6), (⟨"ChairTooFew$Party", "mark", "(IZ)V"⟩, 10), (⟨"ChairTooFew$Text", "newPlayer", "(LChairTooFew$Party;)Z"⟩, 6), (⟨"ChairTooFew$Text", "newForm", "(LChairTooFew$Party;)Z"⟩, 6), (⟨"ChairTooFew$Party", "walk", "(LChairTooFew$Walker;)V"⟩, 10), (⟨"ChairTooFew$Party", "isLikedAtChair", "()Z"⟩, 10), (⟨"ChairTooFew$Seating", "measure", "(LChairTooFew$Party;)V"⟩, 5)]
theorem lw_r1 : ∀ q ∈ lw_privs_1, lw_okq q := List.forall_mem_cons.mpr ⟨lw_p0, List.forall_mem_cons.mpr ⟨lw_p1, List.forall_mem_cons.mpr ⟨lw_p2, List.forall_mem_cons.mpr ⟨lw_p3, List.forall_mem_cons.mpr ⟨lw_p4, List.forall_mem_cons.mpr ⟨lw_p5, List.forall_mem_cons.mpr ⟨lw_p6, List.forall_mem_cons.mpr ⟨lw_p7, List.forall_mem_cons.mpr ⟨lw_p8, List.forall_mem_cons.mpr ⟨lw_p9, List.forall_mem_cons.mpr ⟨lw_p10, List.forall_mem_cons.mpr ⟨lw_p11, List.forall_mem_cons.mpr ⟨lw_p12, List.forall_mem_cons.mpr ⟨lw_p13, List.forall_mem_cons.mpr ⟨lw_p14, List.forall_mem_cons.mpr ⟨lw_p15, fun _ h => absurd h List.not_mem_nil⟩⟩⟩⟩⟩⟩⟩⟩⟩⟩⟩⟩⟩⟩⟩⟩
theorem lw_p16 : lw_okq (⟨"ChairTooFew$Seating", "seatLeastHaste", "()Z"⟩, 5) := ⟨⟨by decide +kernel, by decide +kernel⟩, List.mem_of_getElem? (i := 92) (by decide +kernel), List.mem_of_getElem? (i := 640) (by decide +kernel), List.mem_of_getElem? (i := 641) (by decide +kernel)⟩
theorem lw_p17 : lw_okq (⟨"ChairTooFew$Seating", "giveWay", "(I)V"⟩, 5) := ⟨⟨by decide +kernel, by decide +kernel⟩, List.mem_of_getElem? (i := 92) (by decide +kernel), List.mem_of_getElem? (i := 644) (by decide +kernel), List.mem_of_getElem? (i := 645) (by decide +kernel)⟩
theorem lw_p18 : lw_okq (⟨"ChairTooFew$Ring", "mostCrowdedChair", "()I"⟩, 4) := ⟨⟨by decide +kernel, by decide +kernel⟩, List.mem_of_getElem? (i := 39) (by decide +kernel), List.mem_of_getElem? (i := 670) (by decide +kernel), List.mem_of_getElem? (i := 671) (by decide +kernel)⟩
theorem lw_p19 : lw_okq (⟨"ChairTooFew$Ring", "wayOn", "(II)I"⟩, 4) := ⟨⟨by decide +kernel, by decide +kernel⟩, List.mem_of_getElem? (i := 39) (by decide +kernel), List.mem_of_getElem? (i := 675) (by decide +kernel), List.mem_of_getElem? (i := 676) (by decide +kernel)⟩
theorem lw_p20 : lw_okq (⟨"ChairTooFew$Mind", "seatBehindTenth", "()V"⟩, 5) := ⟨⟨by decide +kernel, by decide +kernel⟩, List.mem_of_getElem? (i := 27) (by decide +kernel), List.mem_of_getElem? (i := 716) (by decide +kernel), List.mem_of_getElem? (i := 717) (by decide +kernel)⟩
theorem lw_p21 : lw_okq (⟨"ChairTooFew$Mind", "countSeatedTimes", "(I)V"⟩, 5) := ⟨⟨by decide +kernel, by decide +kernel⟩, List.mem_of_getElem? (i := 27) (by decide +kernel), List.mem_of_getElem? (i := 731) (by decide +kernel), List.mem_of_getElem? (i := 732) (by decide +kernel)⟩
theorem lw_p22 : lw_okq (⟨"ChairTooFew$Mind", "playOut", "()V"⟩, 5) := ⟨⟨by decide +kernel, by decide +kernel⟩, List.mem_of_getElem? (i := 27) (by decide +kernel), List.mem_of_getElem? (i := 766) (by decide +kernel), List.mem_of_getElem? (i := 767) (by decide +kernel)⟩
theorem lw_p23 : lw_okq (⟨"ChairTooFew", "whyNotSeeds", "(I)I"⟩, 8) := ⟨⟨by decide +kernel, by decide +kernel⟩, List.mem_of_getElem? (i := 19) (by decide +kernel), List.mem_of_getElem? (i := 780) (by decide +kernel), List.mem_of_getElem? (i := 781) (by decide +kernel)⟩
theorem lw_p24 : lw_okq (⟨"ChairTooFew", "couldAllBeBy", "(I)Z"⟩, 8) := ⟨⟨by decide +kernel, by decide +kernel⟩, List.mem_of_getElem? (i := 19) (by decide +kernel), List.mem_of_getElem? (i := 831) (by decide +kernel), List.mem_of_getElem? (i := 832) (by decide +kernel)⟩
theorem lw_p25 : lw_okq (⟨"ChairTooFewModel", "isPlace", "(I)Z"⟩, 44) := ⟨⟨by decide +kernel, by decide +kernel⟩, List.mem_of_getElem? (i := 892) (by decide +kernel), List.mem_of_getElem? (i := 1035) (by decide +kernel), List.mem_of_getElem? (i := 1036) (by decide +kernel)⟩
theorem lw_p26 : lw_okq (⟨"ChairTooFewModel", "no", "(I)I"⟩, 44) := ⟨⟨by decide +kernel, by decide +kernel⟩, List.mem_of_getElem? (i := 892) (by decide +kernel), List.mem_of_getElem? (i := 1039) (by decide +kernel), List.mem_of_getElem? (i := 1040) (by decide +kernel)⟩
theorem lw_p27 : lw_okq (⟨"ChairTooFewModel", "chairs", "()I"⟩, 44) := ⟨⟨by decide +kernel, by decide +kernel⟩, List.mem_of_getElem? (i := 892) (by decide +kernel), List.mem_of_getElem? (i := 1043) (by decide +kernel), List.mem_of_getElem? (i := 1044) (by decide +kernel)⟩
theorem lw_p28 : lw_okq (⟨"ChairTooFewModel", "comesChair", "(I)V"⟩, 44) := ⟨⟨by decide +kernel, by decide +kernel⟩, List.mem_of_getElem? (i := 892) (by decide +kernel), List.mem_of_getElem? (i := 1047) (by decide +kernel), List.mem_of_getElem? (i := 1048) (by decide +kernel)⟩
theorem lw_p29 : lw_okq (⟨"ChairTooFewModel", "isTaken", "(I)Z"⟩, 44) := ⟨⟨by decide +kernel, by decide +kernel⟩, List.mem_of_getElem? (i := 892) (by decide +kernel), List.mem_of_getElem? (i := 1061) (by decide +kernel), List.mem_of_getElem? (i := 1062) (by decide +kernel)⟩
theorem lw_p30 : lw_okq (⟨"ChairTooFewModel", "comesWalker", "(III)V"⟩, 44) := ⟨⟨by decide +kernel, by decide +kernel⟩, List.mem_of_getElem? (i := 892) (by decide +kernel), List.mem_of_getElem? (i := 1065) (by decide +kernel), List.mem_of_getElem? (i := 1066) (by decide +kernel)⟩
theorem lw_p31 : lw_okq (⟨"ChairTooFewModel", "isWalker", "(I)Z"⟩, 44) := ⟨⟨by decide +kernel, by decide +kernel⟩, List.mem_of_getElem? (i := 892) (by decide +kernel), List.mem_of_getElem? (i := 1073) (by decide +kernel), List.mem_of_getElem? (i := 1074) (by decide +kernel)⟩
def lw_privs_2 : List (MethodName × Nat) := [(⟨"ChairTooFew$Seating", "seatLeastHaste", "()Z"⟩, 5), (⟨"ChairTooFew$Seating", "giveWay", "(I)V"⟩, 5), (⟨"ChairTooFew$Ring", "mostCrowdedChair", "()I"⟩, 4), (⟨"ChairTooFew$Ring", "wayOn", "(II)I"⟩, 4), (⟨"ChairTooFew$Mind", "seatBehindTenth", "()V"⟩, 5), (⟨"ChairTooFew$Mind", "countSeatedTimes", "(I)V"⟩, 5), (⟨"ChairTooFew$Mind", "playOut", "()V"⟩, 5), (⟨"ChairTooFew", "whyNotSeeds", "(I)I"⟩, 8), (⟨"ChairTooFew", "couldAllBeBy", "(I)Z"⟩, 8), (⟨"ChairTooFewModel", "isPlace", "(I)Z"⟩, 44), (⟨"ChairTooFewModel", "no", "(I)I"⟩, 44), (⟨"ChairTooFewModel", "chairs", "()I"⟩, 44), (⟨"ChairTooFewModel", "comesChair", "(I)V"⟩, 44), (⟨"ChairTooFewModel", "isTaken", "(I)Z"⟩, 44), (⟨"ChairTooFewModel", "comesWalker", "(III)V"⟩, 44), (⟨"ChairTooFewModel", "isWalker", "(I)Z"⟩, 44)]
theorem lw_r2 : ∀ q ∈ lw_privs_2, lw_okq q := List.forall_mem_cons.mpr ⟨lw_p16, List.forall_mem_cons.mpr ⟨lw_p17, List.forall_mem_cons.mpr ⟨lw_p18, List.forall_mem_cons.mpr ⟨lw_p19, List.forall_mem_cons.mpr ⟨lw_p20, List.forall_mem_cons.mpr ⟨lw_p21, List.forall_mem_cons.mpr ⟨lw_p22, List.forall_mem_cons.mpr ⟨lw_p23, List.forall_mem_cons.mpr ⟨lw_p24, List.forall_mem_cons.mpr ⟨lw_p25, List.forall_mem_cons.mpr ⟨lw_p26, List.forall_mem_cons.mpr ⟨lw_p27, List.forall_mem_cons.mpr ⟨lw_p28, List.forall_mem_cons.mpr ⟨lw_p29, List.forall_mem_cons.mpr ⟨lw_p30, List.forall_mem_cons.mpr ⟨lw_p31, fun _ h => absurd h List.not_mem_nil⟩⟩⟩⟩⟩⟩⟩⟩⟩⟩⟩⟩⟩⟩⟩⟩
theorem lw_p32 : lw_okq (⟨"ChairTooFewModel", "hasteOf", "(II)I"⟩, 44) := ⟨⟨by decide +kernel, by decide +kernel⟩, List.mem_of_getElem? (i := 892) (by decide +kernel), List.mem_of_getElem? (i := 1101) (by decide +kernel), List.mem_of_getElem? (i := 1102) (by decide +kernel)⟩
theorem lw_p33 : lw_okq (⟨"ChairTooFewModel", "far", "(II)I"⟩, 44) := ⟨⟨by decide +kernel, by decide +kernel⟩, List.mem_of_getElem? (i := 892) (by decide +kernel), List.mem_of_getElem? (i := 1105) (by decide +kernel), List.mem_of_getElem? (i := 1106) (by decide +kernel)⟩
theorem lw_p34 : lw_okq (⟨"ChairTooFewModel", "statement", "()Z"⟩, 44) := ⟨⟨by decide +kernel, by decide +kernel⟩, List.mem_of_getElem? (i := 892) (by decide +kernel), List.mem_of_getElem? (i := 1118) (by decide +kernel), List.mem_of_getElem? (i := 1119) (by decide +kernel)⟩
theorem lw_p35 : lw_okq (⟨"ChairTooFewModel", "sign", "()I"⟩, 44) := ⟨⟨by decide +kernel, by decide +kernel⟩, List.mem_of_getElem? (i := 892) (by decide +kernel), List.mem_of_getElem? (i := 1122) (by decide +kernel), List.mem_of_getElem? (i := 1123) (by decide +kernel)⟩
theorem lw_p36 : lw_okq (⟨"ChairTooFewModel", "number", "(I)I"⟩, 44) := ⟨⟨by decide +kernel, by decide +kernel⟩, List.mem_of_getElem? (i := 892) (by decide +kernel), List.mem_of_getElem? (i := 1126) (by decide +kernel), List.mem_of_getElem? (i := 1127) (by decide +kernel)⟩
theorem lw_p37 : lw_okq (⟨"ChairTooFewModel", "takes", "(I)Z"⟩, 44) := ⟨⟨by decide +kernel, by decide +kernel⟩, List.mem_of_getElem? (i := 892) (by decide +kernel), List.mem_of_getElem? (i := 1130) (by decide +kernel), List.mem_of_getElem? (i := 1131) (by decide +kernel)⟩
theorem lw_p38 : lw_okq (⟨"ChairTooFewModel", "passesAll", "(IZ)V"⟩, 44) := ⟨⟨by decide +kernel, by decide +kernel⟩, List.mem_of_getElem? (i := 892) (by decide +kernel), List.mem_of_getElem? (i := 1134) (by decide +kernel), List.mem_of_getElem? (i := 1135) (by decide +kernel)⟩
theorem lw_p39 : lw_okq (⟨"ChairTooFewModel", "passes", "([I)V"⟩, 44) := ⟨⟨by decide +kernel, by decide +kernel⟩, List.mem_of_getElem? (i := 892) (by decide +kernel), List.mem_of_getElem? (i := 1138) (by decide +kernel), List.mem_of_getElem? (i := 1139) (by decide +kernel)⟩
theorem lw_p40 : lw_okq (⟨"ChairTooFewModel", "passOne", "(I)I"⟩, 44) := ⟨⟨by decide +kernel, by decide +kernel⟩, List.mem_of_getElem? (i := 892) (by decide +kernel), List.mem_of_getElem? (i := 1142) (by decide +kernel), List.mem_of_getElem? (i := 1143) (by decide +kernel)⟩
theorem lw_p41 : lw_okq (⟨"ChairTooFewModel", "comes", "(I)Z"⟩, 44) := ⟨⟨by decide +kernel, by decide +kernel⟩, List.mem_of_getElem? (i := 892) (by decide +kernel), List.mem_of_getElem? (i := 1146) (by decide +kernel), List.mem_of_getElem? (i := 1147) (by decide +kernel)⟩
theorem lw_p42 : lw_okq (⟨"ChairTooFewModel", "isOver", "()Z"⟩, 44) := ⟨⟨by decide +kernel, by decide +kernel⟩, List.mem_of_getElem? (i := 892) (by decide +kernel), List.mem_of_getElem? (i := 1154) (by decide +kernel), List.mem_of_getElem? (i := 1155) (by decide +kernel)⟩
theorem lw_p43 : lw_okq (⟨"ChairTooFewModel", "ins", "()I"⟩, 44) := ⟨⟨by decide +kernel, by decide +kernel⟩, List.mem_of_getElem? (i := 892) (by decide +kernel), List.mem_of_getElem? (i := 1158) (by decide +kernel), List.mem_of_getElem? (i := 1159) (by decide +kernel)⟩
theorem lw_p44 : lw_okq (⟨"ChairTooFewModel", "goesOn", "()Z"⟩, 44) := ⟨⟨by decide +kernel, by decide +kernel⟩, List.mem_of_getElem? (i := 892) (by decide +kernel), List.mem_of_getElem? (i := 1162) (by decide +kernel), List.mem_of_getElem? (i := 1163) (by decide +kernel)⟩
theorem lw_p45 : lw_okq (⟨"ChairTooFewModel", "walks", "()V"⟩, 44) := ⟨⟨by decide +kernel, by decide +kernel⟩, List.mem_of_getElem? (i := 892) (by decide +kernel), List.mem_of_getElem? (i := 1166) (by decide +kernel), List.mem_of_getElem? (i := 1167) (by decide +kernel)⟩
theorem lw_p46 : lw_okq (⟨"ChairTooFewModel", "doesStop", "()Z"⟩, 44) := ⟨⟨by decide +kernel, by decide +kernel⟩, List.mem_of_getElem? (i := 892) (by decide +kernel), List.mem_of_getElem? (i := 1170) (by decide +kernel), List.mem_of_getElem? (i := 1171) (by decide +kernel)⟩
theorem lw_p47 : lw_okq (⟨"ChairTooFewModel", "stops", "()I"⟩, 44) := ⟨⟨by decide +kernel, by decide +kernel⟩, List.mem_of_getElem? (i := 892) (by decide +kernel), List.mem_of_getElem? (i := 1177) (by decide +kernel), List.mem_of_getElem? (i := 1178) (by decide +kernel)⟩
def lw_privs_3 : List (MethodName × Nat) := [(⟨"ChairTooFewModel", "hasteOf", "(II)I"⟩, 44), (⟨"ChairTooFewModel", "far", "(II)I"⟩, 44), (⟨"ChairTooFewModel", "statement", "()Z"⟩, 44), (⟨"ChairTooFewModel", "sign", "()I"⟩, 44), (⟨"ChairTooFewModel", "number", "(I)I"⟩, 44), (⟨"ChairTooFewModel", "takes", "(I)Z"⟩, 44), (⟨"ChairTooFewModel", "passesAll", "(IZ)V"⟩, 44), (⟨"ChairTooFewModel", "passes", "([I)V"⟩, 44), (⟨"ChairTooFewModel", "passOne", "(I)I"⟩, 44), (⟨"ChairTooFewModel", "comes", "(I)Z"⟩, 44), (⟨"ChairTooFewModel", "isOver", "()Z"⟩, 44), (⟨"ChairTooFewModel", "ins", "()I"⟩, 44), (⟨"ChairTooFewModel", "goesOn", "()Z"⟩, 44), (⟨"ChairTooFewModel", "walks", "()V"⟩, 44), (⟨"ChairTooFewModel", "doesStop", "()Z"⟩, 44), (⟨"ChairTooFewModel", "stops", "()I"⟩, 44)]
theorem lw_r3 : ∀ q ∈ lw_privs_3, lw_okq q := List.forall_mem_cons.mpr ⟨lw_p32, List.forall_mem_cons.mpr ⟨lw_p33, List.forall_mem_cons.mpr ⟨lw_p34, List.forall_mem_cons.mpr ⟨lw_p35, List.forall_mem_cons.mpr ⟨lw_p36, List.forall_mem_cons.mpr ⟨lw_p37, List.forall_mem_cons.mpr ⟨lw_p38, List.forall_mem_cons.mpr ⟨lw_p39, List.forall_mem_cons.mpr ⟨lw_p40, List.forall_mem_cons.mpr ⟨lw_p41, List.forall_mem_cons.mpr ⟨lw_p42, List.forall_mem_cons.mpr ⟨lw_p43, List.forall_mem_cons.mpr ⟨lw_p44, List.forall_mem_cons.mpr ⟨lw_p45, List.forall_mem_cons.mpr ⟨lw_p46, List.forall_mem_cons.mpr ⟨lw_p47, fun _ h => absurd h List.not_mem_nil⟩⟩⟩⟩⟩⟩⟩⟩⟩⟩⟩⟩⟩⟩⟩⟩
theorem lw_p48 : lw_okq (⟨"ChairTooFewModel", "sit", "()V"⟩, 44) := ⟨⟨by decide +kernel, by decide +kernel⟩, List.mem_of_getElem? (i := 892) (by decide +kernel), List.mem_of_getElem? (i := 1181) (by decide +kernel), List.mem_of_getElem? (i := 1182) (by decide +kernel)⟩
theorem lw_p49 : lw_okq (⟨"ChairTooFewModel", "seatsOne", "()Z"⟩, 44) := ⟨⟨by decide +kernel, by decide +kernel⟩, List.mem_of_getElem? (i := 892) (by decide +kernel), List.mem_of_getElem? (i := 1185) (by decide +kernel), List.mem_of_getElem? (i := 1186) (by decide +kernel)⟩
theorem lw_p50 : lw_okq (⟨"ChairTooFewModel", "isSeat", "(I)Z"⟩, 44) := ⟨⟨by decide +kernel, by decide +kernel⟩, List.mem_of_getElem? (i := 892) (by decide +kernel), List.mem_of_getElem? (i := 1189) (by decide +kernel), List.mem_of_getElem? (i := 1190) (by decide +kernel)⟩
theorem lw_p51 : lw_okq (⟨"ChairTooFewModel", "mayReach", "(II)Z"⟩, 44) := ⟨⟨by decide +kernel, by decide +kernel⟩, List.mem_of_getElem? (i := 892) (by decide +kernel), List.mem_of_getElem? (i := 1193) (by decide +kernel), List.mem_of_getElem? (i := 1194) (by decide +kernel)⟩
theorem lw_p52 : lw_okq (⟨"ChairTooFewModel", "judges", "(I)V"⟩, 44) := ⟨⟨by decide +kernel, by decide +kernel⟩, List.mem_of_getElem? (i := 892) (by decide +kernel), List.mem_of_getElem? (i := 1197) (by decide +kernel), List.mem_of_getElem? (i := 1198) (by decide +kernel)⟩
theorem lw_p53 : lw_okq (⟨"ChairTooFewModel", "goer", "()I"⟩, 44) := ⟨⟨by decide +kernel, by decide +kernel⟩, List.mem_of_getElem? (i := 892) (by decide +kernel), List.mem_of_getElem? (i := 1201) (by decide +kernel), List.mem_of_getElem? (i := 1202) (by decide +kernel)⟩
theorem lw_p54 : lw_okq (⟨"ChairTooFewModel", "nearest", "(I)I"⟩, 44) := ⟨⟨by decide +kernel, by decide +kernel⟩, List.mem_of_getElem? (i := 892) (by decide +kernel), List.mem_of_getElem? (i := 1205) (by decide +kernel), List.mem_of_getElem? (i := 1206) (by decide +kernel)⟩
theorem lw_p55 : lw_okq (⟨"ChairTooFewModel", "leaver", "()I"⟩, 44) := ⟨⟨by decide +kernel, by decide +kernel⟩, List.mem_of_getElem? (i := 892) (by decide +kernel), List.mem_of_getElem? (i := 1209) (by decide +kernel), List.mem_of_getElem? (i := 1210) (by decide +kernel)⟩
theorem lw_p56 : lw_okq (⟨"ChairTooFewModel", "ways", "(I)I"⟩, 44) := ⟨⟨by decide +kernel, by decide +kernel⟩, List.mem_of_getElem? (i := 892) (by decide +kernel), List.mem_of_getElem? (i := 1213) (by decide +kernel), List.mem_of_getElem? (i := 1214) (by decide +kernel)⟩
theorem lw_p57 : lw_okq (⟨"ChairTooFewModel", "isThere", "(I)Z"⟩, 44) := ⟨⟨by decide +kernel, by decide +kernel⟩, List.mem_of_getElem? (i := 892) (by decide +kernel), List.mem_of_getElem? (i := 1225) (by decide +kernel), List.mem_of_getElem? (i := 1226) (by decide +kernel)⟩
theorem lw_p58 : lw_okq (⟨"ChairTooFewModel", "notOdds", "(II)I"⟩, 44) := ⟨⟨by decide +kernel, by decide +kernel⟩, List.mem_of_getElem? (i := 892) (by decide +kernel), List.mem_of_getElem? (i := 1237) (by decide +kernel), List.mem_of_getElem? (i := 1238) (by decide +kernel)⟩
theorem lw_p59 : lw_okq (⟨"ChairTooFewModel", "oddsOf", "(II)I"⟩, 44) := ⟨⟨by decide +kernel, by decide +kernel⟩, List.mem_of_getElem? (i := 892) (by decide +kernel), List.mem_of_getElem? (i := 1241) (by decide +kernel), List.mem_of_getElem? (i := 1242) (by decide +kernel)⟩
theorem lw_p60 : lw_okq (⟨"ChairTooFewModel", "findOdds", "(III)V"⟩, 44) := ⟨⟨by decide +kernel, by decide +kernel⟩, List.mem_of_getElem? (i := 892) (by decide +kernel), List.mem_of_getElem? (i := 1245) (by decide +kernel), List.mem_of_getElem? (i := 1246) (by decide +kernel)⟩
theorem lw_p61 : lw_okq (⟨"ChairTooFewModel", "oddsBy", "(III)I"⟩, 44) := ⟨⟨by decide +kernel, by decide +kernel⟩, List.mem_of_getElem? (i := 892) (by decide +kernel), List.mem_of_getElem? (i := 1257) (by decide +kernel), List.mem_of_getElem? (i := 1258) (by decide +kernel)⟩
theorem lw_p62 : lw_okq (⟨"ChairTooFewModel", "partyBy", "(III)V"⟩, 44) := ⟨⟨by decide +kernel, by decide +kernel⟩, List.mem_of_getElem? (i := 892) (by decide +kernel), List.mem_of_getElem? (i := 1269) (by decide +kernel), List.mem_of_getElem? (i := 1270) (by decide +kernel)⟩
theorem lw_p63 : lw_okq (⟨"ChairTooFewModel", "plays", "()V"⟩, 44) := ⟨⟨by decide +kernel, by decide +kernel⟩, List.mem_of_getElem? (i := 892) (by decide +kernel), List.mem_of_getElem? (i := 1273) (by decide +kernel), List.mem_of_getElem? (i := 1274) (by decide +kernel)⟩
def lw_privs_4 : List (MethodName × Nat) := [(⟨"ChairTooFewModel", "sit", "()V"⟩, 44), (⟨"ChairTooFewModel", "seatsOne", "()Z"⟩, 44), (⟨"ChairTooFewModel", "isSeat", "(I)Z"⟩, 44), (⟨"ChairTooFewModel", "mayReach", "(II)Z"⟩, 44), (⟨"ChairTooFewModel", "judges", "(I)V"⟩, 44), (⟨"ChairTooFewModel", "goer", "()I"⟩, 44), (⟨"ChairTooFewModel", "nearest", "(I)I"⟩, 44), (⟨"ChairTooFewModel", "leaver", "()I"⟩, 44), (⟨"ChairTooFewModel", "ways", "(I)I"⟩, 44), (⟨"ChairTooFewModel", "isThere", "(I)Z"⟩, 44), (⟨"ChairTooFewModel", "notOdds", "(II)I"⟩, 44), (⟨"ChairTooFewModel", "oddsOf", "(II)I"⟩, 44), (⟨"ChairTooFewModel", "findOdds", "(III)V"⟩, 44), (⟨"ChairTooFewModel", "oddsBy", "(III)I"⟩, 44), (⟨"ChairTooFewModel", "partyBy", "(III)V"⟩, 44), (⟨"ChairTooFewModel", "plays", "()V"⟩, 44)]
theorem lw_r4 : ∀ q ∈ lw_privs_4, lw_okq q := List.forall_mem_cons.mpr ⟨lw_p48, List.forall_mem_cons.mpr ⟨lw_p49, List.forall_mem_cons.mpr ⟨lw_p50, List.forall_mem_cons.mpr ⟨lw_p51, List.forall_mem_cons.mpr ⟨lw_p52, List.forall_mem_cons.mpr ⟨lw_p53, List.forall_mem_cons.mpr ⟨lw_p54, List.forall_mem_cons.mpr ⟨lw_p55, List.forall_mem_cons.mpr ⟨lw_p56, List.forall_mem_cons.mpr ⟨lw_p57, List.forall_mem_cons.mpr ⟨lw_p58, List.forall_mem_cons.mpr ⟨lw_p59, List.forall_mem_cons.mpr ⟨lw_p60, List.forall_mem_cons.mpr ⟨lw_p61, List.forall_mem_cons.mpr ⟨lw_p62, List.forall_mem_cons.mpr ⟨lw_p63, fun _ h => absurd h List.not_mem_nil⟩⟩⟩⟩⟩⟩⟩⟩⟩⟩⟩⟩⟩⟩⟩⟩
def lw_privs : List (MethodName × Nat) := lw_privs_1 ++ (lw_privs_2 ++ (lw_privs_3 ++ (lw_privs_4)))
def lw_tbl : List Cond := k2_sels lw_privs ++ tables_1
theorem lw_privs_ok : ∀ q ∈ lw_privs, lw_okq q := by
  show ∀ q ∈ lw_privs_1 ++ (lw_privs_2 ++ (lw_privs_3 ++ (lw_privs_4))), lw_okq q
  exact List.forall_mem_append.mpr ⟨lw_r1, List.forall_mem_append.mpr ⟨lw_r2, List.forall_mem_append.mpr ⟨lw_r3, lw_r4⟩⟩⟩
-- ===== end of PART A; then your names; then what follows =====
/-! ===== BEGIN words of one list among another's, by their places ===== -/
theorem goodIn_r {big : List Cond} (ws : List Cond) (ps : List Nat) (hp : ws = ps.filterMap (fun i => big[i]?)) (h : ws.all goodWord = true) : GoodIn big ws := by
  intro w hw
  have h1 := List.all_eq_true.mp h w hw
  rw [hp] at hw
  obtain ⟨i, -, hi⟩ := List.mem_filterMap.mp hw
  have hm : w ∈ big := by first | exact List.mem_of_getElem? hi | exact List.getElem?_mem hi
  exact ⟨hm, good_of_word h1⟩
theorem goodIn_app {big a b : List Cond} (ha : GoodIn big a) (hb : GoodIn big b) : GoodIn big (a ++ b) := fun w h => (List.mem_append.mp h).elim (ha w) (hb w)
theorem goodIn_ca {big a b : List Cond} {c : Cond} (ha : GoodIn big (c :: a)) (hb : GoodIn big b) : GoodIn big (c :: (a ++ b)) := fun w h => (List.mem_cons.mp h).elim (fun e => ha w (List.mem_cons.mpr (Or.inl e))) (fun h => (List.mem_append.mp h).elim (fun h => ha w (List.mem_cons.mpr (Or.inr h))) (hb w))
theorem goodIn_sub {big ws : List Cond} (hm : ∀ w ∈ ws, w ∈ big) (h : ws.all goodWord = true) : GoodIn big ws := fun w hw => ⟨hm w hw, good_of_word (List.all_eq_true.mp h w hw)⟩
/-! ===== END ===== -/

/-! ===== BEGIN printed: names, fields, word lists, decode rows ===== -/
def RX0 : String := "ChairTooFew$Mind"
def TX0 : u_T := fun k => match k with
  | 0 => ("ChairTooFew$Mind", "real", "LChairTooFew$Party;", true)
  | 1 => ("ChairTooFew$Mind", "thought", "LChairTooFew$Party;", true)
  | 2 => ("ChairTooFew$Mind", "times", "[I", true)
  | 3 => ("ChairTooFew$Mind", "tenthsAhead", "I", false)
  | _ => ("ChairTooFew$Mind", "roundsAhead", "I", false)
def tyX0 : Nat → FieldType := fun k => match k with
  | 0 => .object "ChairTooFew$Party"
  | 1 => .object "ChairTooFew$Party"
  | 2 => .array .int
  | 3 => .int
  | _ => .int
abbrev wsX00 : List Cond := u_ws RX0 TX0 5
theorem nmX0 : ∀ a, a < 5 → ∀ b, b < 5 → a ≠ b → (TX0 a).2.1 ≠ (TX0 b).2.1 := by decide +kernel
theorem tyX0_ok : ∀ k, k < 5 → parseFieldDescriptor (TX0 k).2.2.1 = some (tyX0 k) := by decide +kernel
abbrev cX0_init : ByteArray := prog_2_method_1_code
def yX0_init : MethodName := ⟨RX0, "<init>", "()V"⟩
abbrev cX0_readParty : ByteArray := prog_2_method_2_code
def yX0_readParty : MethodName := ⟨RX0, "readParty", "(LChairTooFew$Text;)I"⟩
abbrev cX0_oddsAt : ByteArray := prog_2_method_3_code
def yX0_oddsAt : MethodName := ⟨RX0, "oddsAt", "(III)I"⟩
abbrev cX0_unfairness : ByteArray := prog_2_method_4_code
def yX0_unfairness : MethodName := ⟨RX0, "unfairness", "(I)I"⟩
abbrev cX0_slowOfGreatestOdds : ByteArray := prog_2_method_5_code
def yX0_slowOfGreatestOdds : MethodName := ⟨RX0, "slowOfGreatestOdds", "(II)I"⟩
abbrev cX0_gainOfCheating : ByteArray := prog_2_method_6_code
def yX0_gainOfCheating : MethodName := ⟨RX0, "gainOfCheating", "(II)I"⟩
abbrev cX0_partyAhead : ByteArray := prog_2_method_7_code
def yX0_partyAhead : MethodName := ⟨RX0, "partyAhead", "(I)I"⟩
abbrev cX0_timesWinner : ByteArray := prog_2_method_8_code
def yX0_timesWinner : MethodName := ⟨RX0, "timesWinner", "(III)I"⟩
abbrev cX0_formOfMostWinners : ByteArray := prog_2_method_9_code
def yX0_formOfMostWinners : MethodName := ⟨RX0, "formOfMostWinners", "(II)I"⟩
abbrev cX0_kindOfFewestTenths : ByteArray := prog_2_method_10_code
def yX0_kindOfFewestTenths : MethodName := ⟨RX0, "kindOfFewestTenths", "()I"⟩
abbrev cX0_teamGain : ByteArray := prog_2_method_11_code
def yX0_teamGain : MethodName := ⟨RX0, "teamGain", "(III)I"⟩
abbrev cX0_sitsWhenHeld : ByteArray := prog_2_method_12_code
def yX0_sitsWhenHeld : MethodName := ⟨RX0, "sitsWhenHeld", "(III)I"⟩
abbrev cX0_firstWrong : ByteArray := prog_2_method_13_code
def yX0_firstWrong : MethodName := ⟨RX0, "firstWrong", "(ILChairTooFew$Numbers;)I"⟩
abbrev cX0_seatBehindTenth : ByteArray := prog_2_method_14_code
def yX0_seatBehindTenth : MethodName := ⟨RX0, "seatBehindTenth", "()V"⟩
abbrev cX0_countSeatedTimes : ByteArray := prog_2_method_15_code
def yX0_countSeatedTimes : MethodName := ⟨RX0, "countSeatedTimes", "(I)V"⟩
abbrev cX0_playOut : ByteArray := prog_2_method_16_code
def yX0_playOut : MethodName := ⟨RX0, "playOut", "()V"⟩
abbrev cX0_bitOf : ByteArray := prog_2_method_17_code
def yX0_bitOf : MethodName := ⟨RX0, "bitOf", "(I)I"⟩
def RX1 : String := "ChairTooFew$Numbers"
def TX1 : u_T := fun k => match k with
  | 0 => ("ChairTooFew$Numbers", "numbers", "[I", true)
  | _ => ("ChairTooFew$Numbers", "length", "I", false)
def tyX1 : Nat → FieldType := fun k => match k with
  | 0 => .array .int
  | _ => .int
abbrev wsX10 : List Cond := u_ws RX1 TX1 2
theorem nmX1 : ∀ a, a < 2 → ∀ b, b < 2 → a ≠ b → (TX1 a).2.1 ≠ (TX1 b).2.1 := by decide +kernel
theorem tyX1_ok : ∀ k, k < 2 → parseFieldDescriptor (TX1 k).2.2.1 = some (tyX1 k) := by decide +kernel
abbrev cX1_init : ByteArray := prog_3_method_1_code
def yX1_init : MethodName := ⟨RX1, "<init>", "(I)V"⟩
abbrev cX1_isFull : ByteArray := prog_3_method_2_code
def yX1_isFull : MethodName := ⟨RX1, "isFull", "()Z"⟩
abbrev cX1_append : ByteArray := prog_3_method_3_code
def yX1_append : MethodName := ⟨RX1, "append", "(I)I"⟩
abbrev cX1_at : ByteArray := prog_3_method_4_code
def yX1_at : MethodName := ⟨RX1, "at", "(I)I"⟩
abbrev cX1_hundredthsUpTo : ByteArray := prog_3_method_5_code
def yX1_hundredthsUpTo : MethodName := ⟨RX1, "hundredthsUpTo", "(I)I"⟩
def RX2 : String := "ChairTooFew$Party"
def TX2 : u_T := fun k => match k with
  | 0 => ("ChairTooFew$Party", "ring", "LChairTooFew$Ring;", true)
  | 1 => ("ChairTooFew$Party", "player", "LChairTooFew$Player;", true)
  | 2 => ("ChairTooFew$Party", "seating", "LChairTooFew$Seating;", true)
  | 3 => ("ChairTooFew$Party", "walkers", "[LChairTooFew$Walker;", true)
  | 4 => ("ChairTooFew$Party", "stoodOn", "[Z", true)
  | 5 => ("ChairTooFew$Party", "walkerCount", "I", false)
  | 6 => ("ChairTooFew$Party", "form", "I", false)
  | 7 => ("ChairTooFew$Party", "tenths", "I", false)
  | 8 => ("ChairTooFew$Party", "rounds", "I", false)
  | _ => ("ChairTooFew$Party", "ended", "Z", false)
def tyX2 : Nat → FieldType := fun k => match k with
  | 0 => .object "ChairTooFew$Ring"
  | 1 => .object "ChairTooFew$Player"
  | 2 => .object "ChairTooFew$Seating"
  | 3 => .array (.object "ChairTooFew$Walker")
  | 4 => .array .boolean
  | 5 => .int
  | 6 => .int
  | 7 => .int
  | 8 => .int
  | _ => .boolean
abbrev wsX20 : List Cond := u_ws RX2 TX2 10
theorem nmX2 : ∀ a, a < 10 → ∀ b, b < 10 → a ≠ b → (TX2 a).2.1 ≠ (TX2 b).2.1 := by decide +kernel
theorem tyX2_ok : ∀ k, k < 10 → parseFieldDescriptor (TX2 k).2.2.1 = some (tyX2 k) := by decide +kernel
abbrev cX2_init : ByteArray := prog_4_method_1_code
def yX2_init : MethodName := ⟨RX2, "<init>", "()V"⟩
abbrev cX2_become : ByteArray := prog_4_method_2_code
def yX2_become : MethodName := ⟨RX2, "become", "(LChairTooFew$Party;)V"⟩
abbrev cX2_knows : ByteArray := prog_4_method_3_code
def yX2_knows : MethodName := ⟨RX2, "knows", "(I)Z"⟩
abbrev cX2_knowsIn : ByteArray := prog_4_method_4_code
def yX2_knowsIn : MethodName := ⟨RX2, "knowsIn", "(I)Z"⟩
abbrev cX2_countIn : ByteArray := prog_4_method_5_code
def yX2_countIn : MethodName := ⟨RX2, "countIn", "()I"⟩
abbrev cX2_canGoOn : ByteArray := prog_4_method_6_code
def yX2_canGoOn : MethodName := ⟨RX2, "canGoOn", "()Z"⟩
abbrev cX2_isStoodOn : ByteArray := prog_4_method_7_code
def yX2_isStoodOn : MethodName := ⟨RX2, "isStoodOn", "(I)Z"⟩
abbrev cX2_mark : ByteArray := prog_4_method_8_code
def yX2_mark : MethodName := ⟨RX2, "mark", "(IZ)V"⟩
abbrev cX2_whyNoChair : ByteArray := prog_4_method_9_code
def yX2_whyNoChair : MethodName := ⟨RX2, "whyNoChair", "(I)I"⟩
abbrev cX2_addChair : ByteArray := prog_4_method_10_code
def yX2_addChair : MethodName := ⟨RX2, "addChair", "(I)I"⟩
abbrev cX2_whyNoWalker : ByteArray := prog_4_method_11_code
def yX2_whyNoWalker : MethodName := ⟨RX2, "whyNoWalker", "(III)I"⟩
abbrev cX2_addWalker : ByteArray := prog_4_method_12_code
def yX2_addWalker : MethodName := ⟨RX2, "addWalker", "(III)I"⟩
abbrev cX2_walkAll : ByteArray := prog_4_method_13_code
def yX2_walkAll : MethodName := ⟨RX2, "walkAll", "()V"⟩
abbrev cX2_walk : ByteArray := prog_4_method_14_code
def yX2_walk : MethodName := ⟨RX2, "walk", "(LChairTooFew$Walker;)V"⟩
abbrev cX2_passTenth : ByteArray := prog_4_method_15_code
def yX2_passTenth : MethodName := ⟨RX2, "passTenth", "()Z"⟩
abbrev cX2_isLikedAtChair : ByteArray := prog_4_method_16_code
def yX2_isLikedAtChair : MethodName := ⟨RX2, "isLikedAtChair", "()Z"⟩
abbrev cX2_endRound : ByteArray := prog_4_method_17_code
def yX2_endRound : MethodName := ⟨RX2, "endRound", "()I"⟩
abbrev cX2_losesChair : ByteArray := prog_4_method_18_code
def yX2_losesChair : MethodName := ⟨RX2, "losesChair", "(I)Z"⟩
abbrev cX2_whoGoes : ByteArray := prog_4_method_19_code
def yX2_whoGoes : MethodName := ⟨RX2, "whoGoes", "()I"⟩
abbrev cX2_winner : ByteArray := prog_4_method_20_code
def yX2_winner : MethodName := ⟨RX2, "winner", "()I"⟩
def RX3 : String := "ChairTooFew$Player"
def TX3 : u_T := fun k => match k with
  | 0 => ("ChairTooFew$Player", "kind", "I", false)
  | 1 => ("ChairTooFew$Player", "figure", "I", false)
  | _ => ("ChairTooFew$Player", "z", "I", false)
def tyX3 : Nat → FieldType := fun k => match k with
  | 0 => .int
  | 1 => .int
  | _ => .int
abbrev wsX30 : List Cond := u_ws RX3 TX3 3
theorem nmX3 : ∀ a, a < 3 → ∀ b, b < 3 → a ≠ b → (TX3 a).2.1 ≠ (TX3 b).2.1 := by decide +kernel
theorem tyX3_ok : ∀ k, k < 3 → parseFieldDescriptor (TX3 k).2.2.1 = some (tyX3 k) := by decide +kernel
abbrev cX3_init : ByteArray := prog_5_method_1_code
def yX3_init : MethodName := ⟨RX3, "<init>", "()V"⟩
abbrev cX3_become : ByteArray := prog_5_method_2_code
def yX3_become : MethodName := ⟨RX3, "become", "(LChairTooFew$Player;)V"⟩
abbrev cX3_whyNot : ByteArray := prog_5_method_3_code
def yX3_whyNot : MethodName := ⟨RX3, "whyNot", "(II)I"⟩
abbrev cX3_drawAgain : ByteArray := prog_5_method_4_code
def yX3_drawAgain : MethodName := ⟨RX3, "drawAgain", "()I"⟩
abbrev cX3_stopsIn : ByteArray := prog_5_method_5_code
def yX3_stopsIn : MethodName := ⟨RX3, "stopsIn", "(IIZ)Z"⟩
abbrev cX3_couldStop : ByteArray := prog_5_method_6_code
def yX3_couldStop : MethodName := ⟨RX3, "couldStop", "(II)Z"⟩
def RX4 : String := "ChairTooFew$Ring"
def TX4 : u_T := fun k => match k with
  | 0 => ("ChairTooFew$Ring", "places", "I", false)
  | 1 => ("ChairTooFew$Ring", "chairs", "I", false)
  | 2 => ("ChairTooFew$Ring", "chairPlaces", "[I", true)
  | _ => ("ChairTooFew$Ring", "taken", "[Z", true)
def tyX4 : Nat → FieldType := fun k => match k with
  | 0 => .int
  | 1 => .int
  | 2 => .array .int
  | _ => .array .boolean
abbrev wsX40 : List Cond := u_ws RX4 TX4 4
theorem nmX4 : ∀ a, a < 4 → ∀ b, b < 4 → a ≠ b → (TX4 a).2.1 ≠ (TX4 b).2.1 := by decide +kernel
theorem tyX4_ok : ∀ k, k < 4 → parseFieldDescriptor (TX4 k).2.2.1 = some (tyX4 k) := by decide +kernel
abbrev cX4_init : ByteArray := prog_6_method_1_code
def yX4_init : MethodName := ⟨RX4, "<init>", "()V"⟩
abbrev cX4_become : ByteArray := prog_6_method_2_code
def yX4_become : MethodName := ⟨RX4, "become", "(LChairTooFew$Ring;)V"⟩
abbrev cX4_isPlace : ByteArray := prog_6_method_3_code
def yX4_isPlace : MethodName := ⟨RX4, "isPlace", "(I)Z"⟩
abbrev cX4_hasChair : ByteArray := prog_6_method_4_code
def yX4_hasChair : MethodName := ⟨RX4, "hasChair", "(I)Z"⟩
abbrev cX4_placeOfChair : ByteArray := prog_6_method_5_code
def yX4_placeOfChair : MethodName := ⟨RX4, "placeOfChair", "(I)I"⟩
abbrev cX4_far : ByteArray := prog_6_method_6_code
def yX4_far : MethodName := ⟨RX4, "far", "(II)I"⟩
abbrev cX4_farFromChairs : ByteArray := prog_6_method_7_code
def yX4_farFromChairs : MethodName := ⟨RX4, "farFromChairs", "(I)I"⟩
abbrev cX4_putChair : ByteArray := prog_6_method_8_code
def yX4_putChair : MethodName := ⟨RX4, "putChair", "(I)V"⟩
abbrev cX4_takeChair : ByteArray := prog_6_method_9_code
def yX4_takeChair : MethodName := ⟨RX4, "takeChair", "(I)V"⟩
abbrev cX4_leavingPlace : ByteArray := prog_6_method_10_code
def yX4_leavingPlace : MethodName := ⟨RX4, "leavingPlace", "(I)I"⟩
abbrev cX4_mostCrowdedChair : ByteArray := prog_6_method_11_code
def yX4_mostCrowdedChair : MethodName := ⟨RX4, "mostCrowdedChair", "()I"⟩
abbrev cX4_wayOn : ByteArray := prog_6_method_12_code
def yX4_wayOn : MethodName := ⟨RX4, "wayOn", "(II)I"⟩
def RX5 : String := "ChairTooFew$Seating"
def TX5 : u_T := fun k => match k with
  | 0 => ("ChairTooFew$Seating", "seats", "[I", true)
  | 1 => ("ChairTooFew$Seating", "hastes", "[I", true)
  | 2 => ("ChairTooFew$Seating", "free", "[Z", true)
  | 3 => ("ChairTooFew$Seating", "walkers", "I", false)
  | _ => ("ChairTooFew$Seating", "chairs", "I", false)
def tyX5 : Nat → FieldType := fun k => match k with
  | 0 => .array .int
  | 1 => .array .int
  | 2 => .array .boolean
  | 3 => .int
  | _ => .int
abbrev wsX50 : List Cond := u_ws RX5 TX5 5
theorem nmX5 : ∀ a, a < 5 → ∀ b, b < 5 → a ≠ b → (TX5 a).2.1 ≠ (TX5 b).2.1 := by decide +kernel
theorem tyX5_ok : ∀ k, k < 5 → parseFieldDescriptor (TX5 k).2.2.1 = some (tyX5 k) := by decide +kernel
abbrev cX5_init : ByteArray := prog_7_method_1_code
def yX5_init : MethodName := ⟨RX5, "<init>", "()V"⟩
abbrev cX5_seatAll : ByteArray := prog_7_method_2_code
def yX5_seatAll : MethodName := ⟨RX5, "seatAll", "(LChairTooFew$Party;)V"⟩
abbrev cX5_isSeated : ByteArray := prog_7_method_3_code
def yX5_isSeated : MethodName := ⟨RX5, "isSeated", "(I)Z"⟩
abbrev cX5_placeOf : ByteArray := prog_7_method_4_code
def yX5_placeOf : MethodName := ⟨RX5, "placeOf", "(ILChairTooFew$Ring;)I"⟩
abbrev cX5_measure : ByteArray := prog_7_method_5_code
def yX5_measure : MethodName := ⟨RX5, "measure", "(LChairTooFew$Party;)V"⟩
abbrev cX5_seatLeastHaste : ByteArray := prog_7_method_6_code
def yX5_seatLeastHaste : MethodName := ⟨RX5, "seatLeastHaste", "()Z"⟩
abbrev cX5_giveWay : ByteArray := prog_7_method_7_code
def yX5_giveWay : MethodName := ⟨RX5, "giveWay", "(I)V"⟩
def RX6 : String := "ChairTooFew$Text"
def TX6 : u_T := fun k => match k with
  | 0 => ("ChairTooFew$Text", "bytes", "[B", true)
  | 1 => ("ChairTooFew$Text", "values", "[I", true)
  | 2 => ("ChairTooFew$Text", "at", "I", false)
  | 3 => ("ChairTooFew$Text", "used", "I", false)
  | 4 => ("ChairTooFew$Text", "length", "I", false)
  | _ => ("ChairTooFew$Text", "statements", "I", false)
def tyX6 : Nat → FieldType := fun k => match k with
  | 0 => .array .byte
  | 1 => .array .int
  | 2 => .int
  | 3 => .int
  | 4 => .int
  | _ => .int
abbrev wsX60 : List Cond := u_ws RX6 TX6 6
theorem nmX6 : ∀ a, a < 6 → ∀ b, b < 6 → a ≠ b → (TX6 a).2.1 ≠ (TX6 b).2.1 := by decide +kernel
theorem tyX6_ok : ∀ k, k < 6 → parseFieldDescriptor (TX6 k).2.2.1 = some (tyX6 k) := by decide +kernel
abbrev cX6_init : ByteArray := prog_8_method_1_code
def yX6_init : MethodName := ⟨RX6, "<init>", "()V"⟩
abbrev cX6_append : ByteArray := prog_8_method_2_code
def yX6_append : MethodName := ⟨RX6, "append", "(IJ)V"⟩
abbrev cX6_firstMisfit : ByteArray := prog_8_method_3_code
def yX6_firstMisfit : MethodName := ⟨RX6, "firstMisfit", "()I"⟩
abbrev cX6_firstImpossible : ByteArray := prog_8_method_4_code
def yX6_firstImpossible : MethodName := ⟨RX6, "firstImpossible", "(LChairTooFew$Party;)I"⟩
abbrev cX6_begin : ByteArray := prog_8_method_5_code
def yX6_begin : MethodName := ⟨RX6, "begin", "()V"⟩
abbrev cX6_readStatement : ByteArray := prog_8_method_6_code
def yX6_readStatement : MethodName := ⟨RX6, "readStatement", "()Z"⟩
abbrev cX6_shapeOf : ByteArray := prog_8_method_7_code
def yX6_shapeOf : MethodName := ⟨RX6, "shapeOf", "(I)Ljava/lang/String;"⟩
abbrev cX6_readPart : ByteArray := prog_8_method_8_code
def yX6_readPart : MethodName := ⟨RX6, "readPart", "(C)Z"⟩
abbrev cX6_readDigits : ByteArray := prog_8_method_9_code
def yX6_readDigits : MethodName := ⟨RX6, "readDigits", "(I)Z"⟩
abbrev cX6_signAhead : ByteArray := prog_8_method_10_code
def yX6_signAhead : MethodName := ⟨RX6, "signAhead", "()I"⟩
abbrev cX6_isDigit : ByteArray := prog_8_method_11_code
def yX6_isDigit : MethodName := ⟨RX6, "isDigit", "(I)Z"⟩
abbrev cX6_comesTrue : ByteArray := prog_8_method_12_code
def yX6_comesTrue : MethodName := ⟨RX6, "comesTrue", "(ILChairTooFew$Party;)Z"⟩
abbrev cX6_resize : ByteArray := prog_8_method_13_code
def yX6_resize : MethodName := ⟨RX6, "resize", "(LChairTooFew$Party;)Z"⟩
abbrev cX6_seatMore : ByteArray := prog_8_method_14_code
def yX6_seatMore : MethodName := ⟨RX6, "seatMore", "(LChairTooFew$Party;)Z"⟩
abbrev cX6_walkerMore : ByteArray := prog_8_method_15_code
def yX6_walkerMore : MethodName := ⟨RX6, "walkerMore", "(LChairTooFew$Party;)Z"⟩
abbrev cX6_newPlayer : ByteArray := prog_8_method_16_code
def yX6_newPlayer : MethodName := ⟨RX6, "newPlayer", "(LChairTooFew$Party;)Z"⟩
abbrev cX6_newForm : ByteArray := prog_8_method_17_code
def yX6_newForm : MethodName := ⟨RX6, "newForm", "(LChairTooFew$Party;)Z"⟩
def RX7 : String := "ChairTooFew$Walker"
def TX7 : u_T := fun k => match k with
  | 0 => ("ChairTooFew$Walker", "place", "I", false)
  | 1 => ("ChairTooFew$Walker", "parts", "I", false)
  | 2 => ("ChairTooFew$Walker", "in", "Z", false)
  | 3 => ("ChairTooFew$Walker", "kind", "I", false)
  | 4 => ("ChairTooFew$Walker", "fast", "I", false)
  | 5 => ("ChairTooFew$Walker", "slow", "I", false)
  | 6 => ("ChairTooFew$Walker", "reach", "I", false)
  | 7 => ("ChairTooFew$Walker", "size", "I", false)
  | _ => ("ChairTooFew$Walker", "manners", "I", false)
def tyX7 : Nat → FieldType := fun k => match k with
  | 0 => .int
  | 1 => .int
  | 2 => .boolean
  | 3 => .int
  | 4 => .int
  | 5 => .int
  | 6 => .int
  | 7 => .int
  | _ => .int
abbrev wsX70 : List Cond := u_ws RX7 TX7 9
theorem nmX7 : ∀ a, a < 9 → ∀ b, b < 9 → a ≠ b → (TX7 a).2.1 ≠ (TX7 b).2.1 := by decide +kernel
theorem tyX7_ok : ∀ k, k < 9 → parseFieldDescriptor (TX7 k).2.2.1 = some (tyX7 k) := by decide +kernel
abbrev cX7_init : ByteArray := prog_9_method_1_code
def yX7_init : MethodName := ⟨RX7, "<init>", "()V"⟩
abbrev cX7_arrive : ByteArray := prog_9_method_2_code
def yX7_arrive : MethodName := ⟨RX7, "arrive", "(III)V"⟩
abbrev cX7_become : ByteArray := prog_9_method_3_code
def yX7_become : MethodName := ⟨RX7, "become", "(LChairTooFew$Walker;)V"⟩
abbrev cX7_hasteOver : ByteArray := prog_9_method_4_code
def yX7_hasteOver : MethodName := ⟨RX7, "hasteOver", "(I)I"⟩
abbrev cX7_change : ByteArray := prog_9_method_5_code
def yX7_change : MethodName := ⟨RX7, "change", "(II)I"⟩
abbrev cX7_tell : ByteArray := prog_9_method_6_code
def yX7_tell : MethodName := ⟨RX7, "tell", "(I)I"⟩
def RX8 : String := "ChairTooFew"
def TX8 : u_T := fun k => match k with
  | 0 => ("ChairTooFew", "mind", "LChairTooFew$Mind;", true)
  | 1 => ("ChairTooFew", "real", "LChairTooFew$Party;", true)
  | 2 => ("ChairTooFew", "kept", "LChairTooFew$Party;", true)
  | 3 => ("ChairTooFew", "stops", "LChairTooFew$Numbers;", true)
  | 4 => ("ChairTooFew", "pictures", "LChairTooFew$Numbers;", true)
  | 5 => ("ChairTooFew", "text", "LChairTooFew$Text;", true)
  | 6 => ("ChairTooFew", "refusals", "[I", true)
  | _ => ("ChairTooFew", "imageTaken", "Z", false)
def tyX8 : Nat → FieldType := fun k => match k with
  | 0 => .object "ChairTooFew$Mind"
  | 1 => .object "ChairTooFew$Party"
  | 2 => .object "ChairTooFew$Party"
  | 3 => .object "ChairTooFew$Numbers"
  | 4 => .object "ChairTooFew$Numbers"
  | 5 => .object "ChairTooFew$Text"
  | 6 => .array .int
  | _ => .boolean
abbrev wsX80 : List Cond := u_ws RX8 TX8 8
theorem nmX8 : ∀ a, a < 8 → ∀ b, b < 8 → a ≠ b → (TX8 a).2.1 ≠ (TX8 b).2.1 := by decide +kernel
theorem tyX8_ok : ∀ k, k < 8 → parseFieldDescriptor (TX8 k).2.2.1 = some (tyX8 k) := by decide +kernel
abbrev cX8_init : ByteArray := prog_1_method_1_code
def yX8_init : MethodName := ⟨RX8, "<init>", "()V"⟩
abbrev cX8_feed : ByteArray := prog_1_method_2_code
def yX8_feed : MethodName := ⟨RX8, "feed", "(IJ)I"⟩
abbrev cX8_party : ByteArray := prog_1_method_3_code
def yX8_party : MethodName := ⟨RX8, "party", "()I"⟩
abbrev cX8_chair : ByteArray := prog_1_method_4_code
def yX8_chair : MethodName := ⟨RX8, "chair", "(I)I"⟩
abbrev cX8_walker : ByteArray := prog_1_method_5_code
def yX8_walker : MethodName := ⟨RX8, "walker", "(III)I"⟩
abbrev cX8_set : ByteArray := prog_1_method_6_code
def yX8_set : MethodName := ⟨RX8, "set", "(III)I"⟩
abbrev cX8_player : ByteArray := prog_1_method_7_code
def yX8_player : MethodName := ⟨RX8, "player", "(II)I"⟩
abbrev cX8_form : ByteArray := prog_1_method_8_code
def yX8_form : MethodName := ⟨RX8, "form", "(I)I"⟩
abbrev cX8_seed : ByteArray := prog_1_method_9_code
def yX8_seed : MethodName := ⟨RX8, "seed", "(I)I"⟩
abbrev cX8_of : ByteArray := prog_1_method_10_code
def yX8_of : MethodName := ⟨RX8, "of", "(II)I"⟩
abbrev cX8_has : ByteArray := prog_1_method_11_code
def yX8_has : MethodName := ⟨RX8, "has", "(I)I"⟩
abbrev cX8_haste : ByteArray := prog_1_method_12_code
def yX8_haste : MethodName := ⟨RX8, "haste", "(II)I"⟩
abbrev cX8_go : ByteArray := prog_1_method_13_code
def yX8_go : MethodName := ⟨RX8, "go", "(I)I"⟩
abbrev cX8_stop : ByteArray := prog_1_method_14_code
def yX8_stop : MethodName := ⟨RX8, "stop", "()I"⟩
abbrev cX8_sits : ByteArray := prog_1_method_15_code
def yX8_sits : MethodName := ⟨RX8, "sits", "(I)I"⟩
abbrev cX8_would : ByteArray := prog_1_method_16_code
def yX8_would : MethodName := ⟨RX8, "would", "(I)I"⟩
abbrev cX8_odds : ByteArray := prog_1_method_17_code
def yX8_odds : MethodName := ⟨RX8, "odds", "(II)I"⟩
abbrev cX8_fair : ByteArray := prog_1_method_18_code
def yX8_fair : MethodName := ⟨RX8, "fair", "(I)I"⟩
abbrev cX8_bestSlow : ByteArray := prog_1_method_19_code
def yX8_bestSlow : MethodName := ⟨RX8, "bestSlow", "(II)I"⟩
abbrev cX8_cheat : ByteArray := prog_1_method_20_code
def yX8_cheat : MethodName := ⟨RX8, "cheat", "(II)I"⟩
abbrev cX8_lasts : ByteArray := prog_1_method_21_code
def yX8_lasts : MethodName := ⟨RX8, "lasts", "(I)I"⟩
abbrev cX8_wins : ByteArray := prog_1_method_22_code
def yX8_wins : MethodName := ⟨RX8, "wins", "(III)I"⟩
abbrev cX8_fairest : ByteArray := prog_1_method_23_code
def yX8_fairest : MethodName := ⟨RX8, "fairest", "(II)I"⟩
abbrev cX8_shortest : ByteArray := prog_1_method_24_code
def yX8_shortest : MethodName := ⟨RX8, "shortest", "()I"⟩
abbrev cX8_row : ByteArray := prog_1_method_25_code
def yX8_row : MethodName := ⟨RX8, "row", "(I)I"⟩
abbrev cX8_could : ByteArray := prog_1_method_26_code
def yX8_could : MethodName := ⟨RX8, "could", "()I"⟩
abbrev cX8_next : ByteArray := prog_1_method_27_code
def yX8_next : MethodName := ⟨RX8, "next", "(I)I"⟩
abbrev cX8_team : ByteArray := prog_1_method_28_code
def yX8_team : MethodName := ⟨RX8, "team", "(IIII)I"⟩
abbrev cX8_film : ByteArray := prog_1_method_29_code
def yX8_film : MethodName := ⟨RX8, "film", "(I)I"⟩
abbrev cX8_judge : ByteArray := prog_1_method_30_code
def yX8_judge : MethodName := ⟨RX8, "judge", "(I)I"⟩
abbrev cX8_image : ByteArray := prog_1_method_31_code
def yX8_image : MethodName := ⟨RX8, "image", "()I"⟩
abbrev cX8_restore : ByteArray := prog_1_method_32_code
def yX8_restore : MethodName := ⟨RX8, "restore", "()I"⟩
abbrev cX8_count : ByteArray := prog_1_method_33_code
def yX8_count : MethodName := ⟨RX8, "count", "(I)I"⟩
abbrev cX8_refuse : ByteArray := prog_1_method_34_code
def yX8_refuse : MethodName := ⟨RX8, "refuse", "(I)I"⟩
abbrev cX8_whyNotSeeds : ByteArray := prog_1_method_35_code
def yX8_whyNotSeeds : MethodName := ⟨RX8, "whyNotSeeds", "(I)I"⟩
abbrev cX8_couldAllBeBy : ByteArray := prog_1_method_36_code
def yX8_couldAllBeBy : MethodName := ⟨RX8, "couldAllBeBy", "(I)Z"⟩
abbrev cX8_whyNotWithin : ByteArray := prog_1_method_37_code
def yX8_whyNotWithin : MethodName := ⟨RX8, "whyNotWithin", "(III)I"⟩
abbrev cX8_leastOf : ByteArray := prog_1_method_38_code
def yX8_leastOf : MethodName := ⟨RX8, "leastOf", "(I)I"⟩
abbrev cX8_greatestOf : ByteArray := prog_1_method_39_code
def yX8_greatestOf : MethodName := ⟨RX8, "greatestOf", "(I)I"⟩
def RX9 : String := "ChairTooFewModel"
def TX9 : u_T := fun k => match k with
  | 0 => ("ChairTooFewModel", "refused", "[I", true)
  | 1 => ("ChairTooFewModel", "chair", "[I", true)
  | 2 => ("ChairTooFewModel", "place", "[I", true)
  | 3 => ("ChairTooFewModel", "parts", "[I", true)
  | 4 => ("ChairTooFewModel", "in", "[I", true)
  | 5 => ("ChairTooFewModel", "kind", "[I", true)
  | 6 => ("ChairTooFewModel", "fast", "[I", true)
  | 7 => ("ChairTooFewModel", "slow", "[I", true)
  | 8 => ("ChairTooFewModel", "reach", "[I", true)
  | 9 => ("ChairTooFewModel", "size", "[I", true)
  | 10 => ("ChairTooFewModel", "manners", "[I", true)
  | 11 => ("ChairTooFewModel", "places", "I", false)
  | 12 => ("ChairTooFewModel", "walkers", "I", false)
  | 13 => ("ChairTooFewModel", "playerKind", "I", false)
  | 14 => ("ChairTooFewModel", "figure", "I", false)
  | 15 => ("ChairTooFewModel", "form", "I", false)
  | 16 => ("ChairTooFewModel", "lots", "I", false)
  | 17 => ("ChairTooFewModel", "tenths", "I", false)
  | 18 => ("ChairTooFewModel", "rounds", "I", false)
  | 19 => ("ChairTooFewModel", "hasEnded", "I", false)
  | 20 => ("ChairTooFewModel", "tape", "[I", true)
  | 21 => ("ChairTooFewModel", "letter", "[I", true)
  | 22 => ("ChairTooFewModel", "letterAt", "[I", true)
  | 23 => ("ChairTooFewModel", "first", "[I", true)
  | 24 => ("ChairTooFewModel", "second", "[I", true)
  | 25 => ("ChairTooFewModel", "third", "[I", true)
  | 26 => ("ChairTooFewModel", "taped", "I", false)
  | 27 => ("ChairTooFewModel", "at", "I", false)
  | 28 => ("ChairTooFewModel", "statements", "I", false)
  | 29 => ("ChairTooFewModel", "kept", "[I", true)
  | 30 => ("ChairTooFewModel", "hasImage", "Z", false)
  | 31 => ("ChairTooFewModel", "isKeeping", "Z", false)
  | 32 => ("ChairTooFewModel", "cursor", "I", false)
  | 33 => ("ChairTooFewModel", "seat", "[I", true)
  | 34 => ("ChairTooFewModel", "often", "[I", true)
  | 35 => ("ChairTooFewModel", "together", "I", false)
  | 36 => ("ChairTooFewModel", "held", "I", false)
  | 37 => ("ChairTooFewModel", "partyTenths", "I", false)
  | 38 => ("ChairTooFewModel", "partyRounds", "I", false)
  | 39 => ("ChairTooFewModel", "winner", "I", false)
  | 40 => ("ChairTooFewModel", "row", "[I", true)
  | 41 => ("ChairTooFewModel", "film", "[I", true)
  | 42 => ("ChairTooFewModel", "rowMany", "I", false)
  | _ => ("ChairTooFewModel", "filmMany", "I", false)
def tyX9 : Nat → FieldType := fun k => match k with
  | 0 => .array .int
  | 1 => .array .int
  | 2 => .array .int
  | 3 => .array .int
  | 4 => .array .int
  | 5 => .array .int
  | 6 => .array .int
  | 7 => .array .int
  | 8 => .array .int
  | 9 => .array .int
  | 10 => .array .int
  | 11 => .int
  | 12 => .int
  | 13 => .int
  | 14 => .int
  | 15 => .int
  | 16 => .int
  | 17 => .int
  | 18 => .int
  | 19 => .int
  | 20 => .array .int
  | 21 => .array .int
  | 22 => .array .int
  | 23 => .array .int
  | 24 => .array .int
  | 25 => .array .int
  | 26 => .int
  | 27 => .int
  | 28 => .int
  | 29 => .array .int
  | 30 => .boolean
  | 31 => .boolean
  | 32 => .int
  | 33 => .array .int
  | 34 => .array .int
  | 35 => .int
  | 36 => .int
  | 37 => .int
  | 38 => .int
  | 39 => .int
  | 40 => .array .int
  | 41 => .array .int
  | 42 => .int
  | _ => .int
abbrev wsX90 : List Cond := u_ws RX9 TX9 44
theorem nmX9 : ∀ a, a < 44 → ∀ b, b < 44 → a ≠ b → (TX9 a).2.1 ≠ (TX9 b).2.1 := by decide +kernel
theorem tyX9_ok : ∀ k, k < 44 → parseFieldDescriptor (TX9 k).2.2.1 = some (tyX9 k) := by decide +kernel
abbrev cX9_init : ByteArray := prog_11_method_1_code
def yX9_init : MethodName := ⟨RX9, "<init>", "()V"⟩
abbrev cX9_no : ByteArray := prog_11_method_2_code
def yX9_no : MethodName := ⟨RX9, "no", "(I)I"⟩
abbrev cX9_isIn : ByteArray := prog_11_method_3_code
def yX9_isIn : MethodName := ⟨RX9, "isIn", "(III)Z"⟩
abbrev cX9_bound : ByteArray := prog_11_method_4_code
def yX9_bound : MethodName := ⟨RX9, "bound", "(III)I"⟩
abbrev cX9_isPlace : ByteArray := prog_11_method_5_code
def yX9_isPlace : MethodName := ⟨RX9, "isPlace", "(I)Z"⟩
abbrev cX9_isWalker : ByteArray := prog_11_method_6_code
def yX9_isWalker : MethodName := ⟨RX9, "isWalker", "(I)Z"⟩
abbrev cX9_chairs : ByteArray := prog_11_method_7_code
def yX9_chairs : MethodName := ⟨RX9, "chairs", "()I"⟩
abbrev cX9_far : ByteArray := prog_11_method_8_code
def yX9_far : MethodName := ⟨RX9, "far", "(II)I"⟩
abbrev cX9_isTaken : ByteArray := prog_11_method_9_code
def yX9_isTaken : MethodName := ⟨RX9, "isTaken", "(I)Z"⟩
abbrev cX9_ins : ByteArray := prog_11_method_10_code
def yX9_ins : MethodName := ⟨RX9, "ins", "()I"⟩
abbrev cX9_comesChair : ByteArray := prog_11_method_11_code
def yX9_comesChair : MethodName := ⟨RX9, "comesChair", "(I)V"⟩
abbrev cX9_comesWalker : ByteArray := prog_11_method_12_code
def yX9_comesWalker : MethodName := ⟨RX9, "comesWalker", "(III)V"⟩
abbrev cX9_chair : ByteArray := prog_11_method_13_code
def yX9_chair : MethodName := ⟨RX9, "chair", "(I)I"⟩
abbrev cX9_walker : ByteArray := prog_11_method_14_code
def yX9_walker : MethodName := ⟨RX9, "walker", "(III)I"⟩
abbrev cX9_set : ByteArray := prog_11_method_15_code
def yX9_set : MethodName := ⟨RX9, "set", "(III)I"⟩
abbrev cX9_player : ByteArray := prog_11_method_16_code
def yX9_player : MethodName := ⟨RX9, "player", "(II)I"⟩
abbrev cX9_form : ByteArray := prog_11_method_17_code
def yX9_form : MethodName := ⟨RX9, "form", "(I)I"⟩
abbrev cX9_seed : ByteArray := prog_11_method_18_code
def yX9_seed : MethodName := ⟨RX9, "seed", "(I)I"⟩
abbrev cX9_of : ByteArray := prog_11_method_19_code
def yX9_of : MethodName := ⟨RX9, "of", "(II)I"⟩
abbrev cX9_has : ByteArray := prog_11_method_20_code
def yX9_has : MethodName := ⟨RX9, "has", "(I)I"⟩
abbrev cX9_hasteOf : ByteArray := prog_11_method_21_code
def yX9_hasteOf : MethodName := ⟨RX9, "hasteOf", "(II)I"⟩
abbrev cX9_haste : ByteArray := prog_11_method_22_code
def yX9_haste : MethodName := ⟨RX9, "haste", "(II)I"⟩
abbrev cX9_feed : ByteArray := prog_11_method_23_code
def yX9_feed : MethodName := ⟨RX9, "feed", "(IJ)I"⟩
abbrev cX9_sign : ByteArray := prog_11_method_24_code
def yX9_sign : MethodName := ⟨RX9, "sign", "()I"⟩
abbrev cX9_takes : ByteArray := prog_11_method_25_code
def yX9_takes : MethodName := ⟨RX9, "takes", "(I)Z"⟩
abbrev cX9_number : ByteArray := prog_11_method_26_code
def yX9_number : MethodName := ⟨RX9, "number", "(I)I"⟩
abbrev cX9_statement : ByteArray := prog_11_method_27_code
def yX9_statement : MethodName := ⟨RX9, "statement", "()Z"⟩
abbrev cX9_comes : ByteArray := prog_11_method_28_code
def yX9_comes : MethodName := ⟨RX9, "comes", "(I)Z"⟩
abbrev cX9_party : ByteArray := prog_11_method_29_code
def yX9_party : MethodName := ⟨RX9, "party", "()I"⟩
abbrev cX9_passes : ByteArray := prog_11_method_30_code
def yX9_passes : MethodName := ⟨RX9, "passes", "([I)V"⟩
abbrev cX9_passOne : ByteArray := prog_11_method_31_code
def yX9_passOne : MethodName := ⟨RX9, "passOne", "(I)I"⟩
abbrev cX9_passesAll : ByteArray := prog_11_method_32_code
def yX9_passesAll : MethodName := ⟨RX9, "passesAll", "(IZ)V"⟩
abbrev cX9_walks : ByteArray := prog_11_method_33_code
def yX9_walks : MethodName := ⟨RX9, "walks", "()V"⟩
abbrev cX9_isSeat : ByteArray := prog_11_method_34_code
def yX9_isSeat : MethodName := ⟨RX9, "isSeat", "(I)Z"⟩
abbrev cX9_mayReach : ByteArray := prog_11_method_35_code
def yX9_mayReach : MethodName := ⟨RX9, "mayReach", "(II)Z"⟩
abbrev cX9_seatsOne : ByteArray := prog_11_method_36_code
def yX9_seatsOne : MethodName := ⟨RX9, "seatsOne", "()Z"⟩
abbrev cX9_judges : ByteArray := prog_11_method_37_code
def yX9_judges : MethodName := ⟨RX9, "judges", "(I)V"⟩
abbrev cX9_sit : ByteArray := prog_11_method_38_code
def yX9_sit : MethodName := ⟨RX9, "sit", "()V"⟩
abbrev cX9_nearest : ByteArray := prog_11_method_39_code
def yX9_nearest : MethodName := ⟨RX9, "nearest", "(I)I"⟩
abbrev cX9_goer : ByteArray := prog_11_method_40_code
def yX9_goer : MethodName := ⟨RX9, "goer", "()I"⟩
abbrev cX9_ways : ByteArray := prog_11_method_41_code
def yX9_ways : MethodName := ⟨RX9, "ways", "(I)I"⟩
abbrev cX9_leaver : ByteArray := prog_11_method_42_code
def yX9_leaver : MethodName := ⟨RX9, "leaver", "()I"⟩
abbrev cX9_stops : ByteArray := prog_11_method_43_code
def yX9_stops : MethodName := ⟨RX9, "stops", "()I"⟩
abbrev cX9_doesStop : ByteArray := prog_11_method_44_code
def yX9_doesStop : MethodName := ⟨RX9, "doesStop", "()Z"⟩
abbrev cX9_goesOn : ByteArray := prog_11_method_45_code
def yX9_goesOn : MethodName := ⟨RX9, "goesOn", "()Z"⟩
abbrev cX9_isOver : ByteArray := prog_11_method_46_code
def yX9_isOver : MethodName := ⟨RX9, "isOver", "()Z"⟩
abbrev cX9_go : ByteArray := prog_11_method_47_code
def yX9_go : MethodName := ⟨RX9, "go", "(I)I"⟩
abbrev cX9_stop : ByteArray := prog_11_method_48_code
def yX9_stop : MethodName := ⟨RX9, "stop", "()I"⟩
abbrev cX9_isThere : ByteArray := prog_11_method_49_code
def yX9_isThere : MethodName := ⟨RX9, "isThere", "(I)Z"⟩
abbrev cX9_sits : ByteArray := prog_11_method_50_code
def yX9_sits : MethodName := ⟨RX9, "sits", "(I)I"⟩
abbrev cX9_would : ByteArray := prog_11_method_51_code
def yX9_would : MethodName := ⟨RX9, "would", "(I)I"⟩
abbrev cX9_findOdds : ByteArray := prog_11_method_52_code
def yX9_findOdds : MethodName := ⟨RX9, "findOdds", "(III)V"⟩
abbrev cX9_oddsOf : ByteArray := prog_11_method_53_code
def yX9_oddsOf : MethodName := ⟨RX9, "oddsOf", "(II)I"⟩
abbrev cX9_notOdds : ByteArray := prog_11_method_54_code
def yX9_notOdds : MethodName := ⟨RX9, "notOdds", "(II)I"⟩
abbrev cX9_odds : ByteArray := prog_11_method_55_code
def yX9_odds : MethodName := ⟨RX9, "odds", "(II)I"⟩
abbrev cX9_fair : ByteArray := prog_11_method_56_code
def yX9_fair : MethodName := ⟨RX9, "fair", "(I)I"⟩
abbrev cX9_oddsBy : ByteArray := prog_11_method_57_code
def yX9_oddsBy : MethodName := ⟨RX9, "oddsBy", "(III)I"⟩
abbrev cX9_bestSlow : ByteArray := prog_11_method_58_code
def yX9_bestSlow : MethodName := ⟨RX9, "bestSlow", "(II)I"⟩
abbrev cX9_cheat : ByteArray := prog_11_method_59_code
def yX9_cheat : MethodName := ⟨RX9, "cheat", "(II)I"⟩
abbrev cX9_plays : ByteArray := prog_11_method_60_code
def yX9_plays : MethodName := ⟨RX9, "plays", "()V"⟩
abbrev cX9_partyBy : ByteArray := prog_11_method_61_code
def yX9_partyBy : MethodName := ⟨RX9, "partyBy", "(III)V"⟩
abbrev cX9_lasts : ByteArray := prog_11_method_62_code
def yX9_lasts : MethodName := ⟨RX9, "lasts", "(I)I"⟩
abbrev cX9_wins : ByteArray := prog_11_method_63_code
def yX9_wins : MethodName := ⟨RX9, "wins", "(III)I"⟩
abbrev cX9_fairest : ByteArray := prog_11_method_64_code
def yX9_fairest : MethodName := ⟨RX9, "fairest", "(II)I"⟩
abbrev cX9_shortest : ByteArray := prog_11_method_65_code
def yX9_shortest : MethodName := ⟨RX9, "shortest", "()I"⟩
abbrev cX9_row : ByteArray := prog_11_method_66_code
def yX9_row : MethodName := ⟨RX9, "row", "(I)I"⟩
abbrev cX9_could : ByteArray := prog_11_method_67_code
def yX9_could : MethodName := ⟨RX9, "could", "()I"⟩
abbrev cX9_next : ByteArray := prog_11_method_68_code
def yX9_next : MethodName := ⟨RX9, "next", "(I)I"⟩
abbrev cX9_team : ByteArray := prog_11_method_69_code
def yX9_team : MethodName := ⟨RX9, "team", "(IIII)I"⟩
abbrev cX9_film : ByteArray := prog_11_method_70_code
def yX9_film : MethodName := ⟨RX9, "film", "(I)I"⟩
abbrev cX9_judge : ByteArray := prog_11_method_71_code
def yX9_judge : MethodName := ⟨RX9, "judge", "(I)I"⟩
abbrev cX9_image : ByteArray := prog_11_method_72_code
def yX9_image : MethodName := ⟨RX9, "image", "()I"⟩
abbrev cX9_restore : ByteArray := prog_11_method_73_code
def yX9_restore : MethodName := ⟨RX9, "restore", "()I"⟩
abbrev cX9_count : ByteArray := prog_11_method_74_code
def yX9_count : MethodName := ⟨RX9, "count", "(I)I"⟩
def RJ6 : String := "java/lang/Integer"
def TJ6 : u_T := fun k => match k with
  | _ => ("", "", "", false)
def tyJ6 : Nat → FieldType := fun k => match k with
  | _ => .int
abbrev wsJ60 : List Cond := u_ws RJ6 TJ6 0
theorem nmJ6 : ∀ a, a < 0 → ∀ b, b < 0 → a ≠ b → (TJ6 a).2.1 ≠ (TJ6 b).2.1 := by decide +kernel
theorem tyJ6_ok : ∀ k, k < 0 → parseFieldDescriptor (TJ6 k).2.2.1 = some (tyJ6 k) := by decide +kernel
abbrev cJ6_bitCount_0f7a4 : ByteArray := prog_12_method_49_code
def yJ6_bitCount_0f7a4 : MethodName := ⟨RJ6, "bitCount", "(I)I"⟩
def RJ9 : String := "java/lang/Math"
def TJ9 : u_T := fun k => match k with
  | _ => ("", "", "", false)
def tyJ9 : Nat → FieldType := fun k => match k with
  | _ => .int
abbrev wsJ90 : List Cond := u_ws RJ9 TJ9 0
theorem nmJ9 : ∀ a, a < 0 → ∀ b, b < 0 → a ≠ b → (TJ9 a).2.1 ≠ (TJ9 b).2.1 := by decide +kernel
theorem tyJ9_ok : ∀ k, k < 0 → parseFieldDescriptor (TJ9 k).2.2.1 = some (tyJ9 k) := by decide +kernel
abbrev cJ9_max_7cf53 : ByteArray := prog_13_method_65_code
def yJ9_max_7cf53 : MethodName := ⟨RJ9, "max", "(II)I"⟩
abbrev cJ9_min_7cf53 : ByteArray := prog_13_method_69_code
def yJ9_min_7cf53 : MethodName := ⟨RJ9, "min", "(II)I"⟩
def RJ0 : String := "java/lang/String"
def TJ0 : u_T := fun k => match k with
  | _ => ("", "", "", false)
def tyJ0 : Nat → FieldType := fun k => match k with
  | _ => .int
abbrev wsJ00 : List Cond := u_ws RJ0 TJ0 0
theorem nmJ0 : ∀ a, a < 0 → ∀ b, b < 0 → a ≠ b → (TJ0 a).2.1 ≠ (TJ0 b).2.1 := by decide +kernel
theorem tyJ0_ok : ∀ k, k < 0 → parseFieldDescriptor (TJ0 k).2.2.1 = some (tyJ0 k) := by decide +kernel
abbrev cJ0_length_8abf5 : ByteArray := prog_14_method_54_code
def yJ0_length_8abf5 : MethodName := ⟨RJ0, "length", "()I"⟩
abbrev cJ0_isEmpty_aae02 : ByteArray := prog_14_method_55_code
def yJ0_isEmpty_aae02 : MethodName := ⟨RJ0, "isEmpty", "()Z"⟩
abbrev cJ0_charAt_5068e : ByteArray := prog_14_method_56_code
def yJ0_charAt_5068e : MethodName := ⟨RJ0, "charAt", "(I)C"⟩
abbrev cJ0_coder_7d493 : ByteArray := prog_14_method_152_code
def yJ0_coder_7d493 : MethodName := ⟨RJ0, "coder", "()B"⟩
abbrev cJ0_isLatin1_aae02 : ByteArray := prog_14_method_154_code
def yJ0_isLatin1_aae02 : MethodName := ⟨RJ0, "isLatin1", "()Z"⟩
abbrev cJ0_checkIndex_df160 : ByteArray := prog_14_method_155_code
def yJ0_checkIndex_df160 : MethodName := ⟨RJ0, "checkIndex", "(II)V"⟩
def RJ1 : String := "java/lang/StringLatin1"
def TJ1 : u_T := fun k => match k with
  | _ => ("", "", "", false)
def tyJ1 : Nat → FieldType := fun k => match k with
  | _ => .int
abbrev wsJ10 : List Cond := u_ws RJ1 TJ1 0
theorem nmJ1 : ∀ a, a < 0 → ∀ b, b < 0 → a ≠ b → (TJ1 a).2.1 ≠ (TJ1 b).2.1 := by decide +kernel
theorem tyJ1_ok : ∀ k, k < 0 → parseFieldDescriptor (TJ1 k).2.2.1 = some (tyJ1 k) := by decide +kernel
abbrev cJ1_charAt_3b067 : ByteArray := prog_15_method_2_code
def yJ1_charAt_3b067 : MethodName := ⟨RJ1, "charAt", "([BI)C"⟩
def RJ2 : String := "java/lang/StringUTF16"
def TJ2 : u_T := fun k => match k with
  | _ => ("", "", "", false)
def tyJ2 : Nat → FieldType := fun k => match k with
  | _ => .int
abbrev wsJ20 : List Cond := u_ws RJ2 TJ2 0
theorem nmJ2 : ∀ a, a < 0 → ∀ b, b < 0 → a ≠ b → (TJ2 a).2.1 ≠ (TJ2 b).2.1 := by decide +kernel
theorem tyJ2_ok : ∀ k, k < 0 → parseFieldDescriptor (TJ2 k).2.2.1 = some (tyJ2 k) := by decide +kernel
abbrev cJ2_getChar_3b067 : ByteArray := prog_16_method_5_code
def yJ2_getChar_3b067 : MethodName := ⟨RJ2, "getChar", "([BI)C"⟩
abbrev cJ2_length_9d52b : ByteArray := prog_16_method_6_code
def yJ2_length_9d52b : MethodName := ⟨RJ2, "length", "([B)I"⟩
abbrev cJ2_charAt_3b067 : ByteArray := prog_16_method_83_code
def yJ2_charAt_3b067 : MethodName := ⟨RJ2, "charAt", "([BI)C"⟩
abbrev cJ2_checkIndex_2214a : ByteArray := prog_16_method_91_code
def yJ2_checkIndex_2214a : MethodName := ⟨RJ2, "checkIndex", "(I[B)V"⟩
def RJ10 : String := "java/lang/System"
def TJ10 : u_T := fun k => match k with
  | _ => ("", "", "", false)
def tyJ10 : Nat → FieldType := fun k => match k with
  | _ => .int
abbrev wsJ100 : List Cond := u_ws RJ10 TJ10 0
theorem nmJ10 : ∀ a, a < 0 → ∀ b, b < 0 → a ≠ b → (TJ10 a).2.1 ≠ (TJ10 b).2.1 := by decide +kernel
theorem tyJ10_ok : ∀ k, k < 0 → parseFieldDescriptor (TJ10 k).2.2.1 = some (tyJ10 k) := by decide +kernel
def RJ3 : String := "jdk/internal/util/Preconditions"
def TJ3 : u_T := fun k => match k with
  | _ => ("", "", "", false)
def tyJ3 : Nat → FieldType := fun k => match k with
  | _ => .int
abbrev wsJ30 : List Cond := u_ws RJ3 TJ3 0
theorem nmJ3 : ∀ a, a < 0 → ∀ b, b < 0 → a ≠ b → (TJ3 a).2.1 ≠ (TJ3 b).2.1 := by decide +kernel
theorem tyJ3_ok : ∀ k, k < 0 → parseFieldDescriptor (TJ3 k).2.2.1 = some (tyJ3 k) := by decide +kernel
abbrev cJ3_checkIndex_8e157 : ByteArray := prog_18_method_11_code
def yJ3_checkIndex_8e157 : MethodName := ⟨RJ3, "checkIndex", "(IILjava/util/function/BiFunction;)I"⟩
def RL : String := "ChairTooFewLaw"
abbrev cL_law : ByteArray := code
def yL_law : MethodName := ⟨RL, "law", "([I)Z"⟩
def wsL_law_r1 : List Cond := [Cond.classLink RL 7 RX8, Cond.instantiable RX8 8, Cond.initialized RX8, Cond.classLink RL 10 RX9, Cond.instantiable RX9 44, Cond.initialized RX9, Cond.constantLong RL 13 (4294967295), Cond.methodLink RL 9 yX8_init, Cond.instanceMethod yX8_init, Cond.code yX8_init cX8_init 1 none, Cond.methodLink RX8 1 objectInit, Cond.instanceMethod objectInit, Cond.code objectInit ⟨#[0xb1]⟩ 1 none, Cond.classLink RX8 7 RX0, Cond.instantiable RX0 5, Cond.initialized RX0, Cond.fieldLink RX8 10 "ChairTooFew" "mind" "LChairTooFew$Mind;", Cond.fieldLink RX8 16 "ChairTooFew$Mind" "real" "LChairTooFew$Party;", Cond.fieldLink RX8 20 "ChairTooFew" "real" "LChairTooFew$Party;", Cond.classLink RX8 21 RX2, Cond.instantiable RX2 10, Cond.initialized RX2, Cond.fieldLink RX8 24 "ChairTooFew" "kept" "LChairTooFew$Party;", Cond.classLink RX8 27 RX1]
def wsL_law_r2 : List Cond := [Cond.instantiable RX1 2, Cond.initialized RX1, Cond.fieldLink RX8 32 "ChairTooFew" "stops" "LChairTooFew$Numbers;", Cond.fieldLink RX8 36 "ChairTooFew" "pictures" "LChairTooFew$Numbers;", Cond.classLink RX8 39 RX6, Cond.instantiable RX6 6, Cond.initialized RX6, Cond.fieldLink RX8 42 "ChairTooFew" "text" "LChairTooFew$Text;", Cond.arrayClass .int, Cond.fieldLink RX8 46 "ChairTooFew" "refusals" "[I", Cond.fieldLink RX8 50 "ChairTooFew" "imageTaken" "Z", Cond.instanceMethod yX0_init, Cond.code yX0_init cX0_init 1 none, Cond.methodLink RX0 3 objectInit, Cond.classLink RX0 9 RX2, Cond.fieldLink RX0 12 "ChairTooFew$Mind" "real" "LChairTooFew$Party;", Cond.fieldLink RX0 18 "ChairTooFew$Mind" "thought" "LChairTooFew$Party;", Cond.fieldLink RX0 21 "ChairTooFew$Mind" "times" "[I", Cond.fieldLink RX0 25 "ChairTooFew$Mind" "tenthsAhead" "I", Cond.fieldLink RX0 29 "ChairTooFew$Mind" "roundsAhead" "I", Cond.methodLink RX0 11 yX2_init, Cond.instanceMethod yX2_init, Cond.code yX2_init cX2_init 2 none, Cond.methodLink RX2 3 objectInit]
def wsL_law_r3 : List Cond := [Cond.classLink RX2 9 RX4, Cond.instantiable RX4 4, Cond.initialized RX4, Cond.fieldLink RX2 12 "ChairTooFew$Party" "ring" "LChairTooFew$Ring;", Cond.classLink RX2 18 RX3, Cond.instantiable RX3 3, Cond.initialized RX3, Cond.fieldLink RX2 21 "ChairTooFew$Party" "player" "LChairTooFew$Player;", Cond.classLink RX2 25 RX5, Cond.instantiable RX5 5, Cond.initialized RX5, Cond.fieldLink RX2 28 "ChairTooFew$Party" "seating" "LChairTooFew$Seating;", Cond.classLink RX2 32 RX7, Cond.fieldLink RX2 34 "ChairTooFew$Party" "walkers" "[LChairTooFew$Walker;", Cond.arrayClass .boolean, Cond.fieldLink RX2 38 "ChairTooFew$Party" "stoodOn" "[Z", Cond.fieldLink RX2 42 "ChairTooFew$Party" "walkerCount" "I", Cond.fieldLink RX2 46 "ChairTooFew$Party" "form" "I", Cond.fieldLink RX2 49 "ChairTooFew$Party" "tenths" "I", Cond.fieldLink RX2 52 "ChairTooFew$Party" "rounds" "I", Cond.fieldLink RX2 55 "ChairTooFew$Party" "ended" "Z", Cond.instantiable RX7 9, Cond.initialized RX7, Cond.instanceMethod yX4_init]
def wsL_law_r4 : List Cond := [Cond.code yX4_init cX4_init 1 none, Cond.methodLink RX4 3 objectInit, Cond.fieldLink RX4 9 "ChairTooFew$Ring" "places" "I", Cond.fieldLink RX4 15 "ChairTooFew$Ring" "chairs" "I", Cond.fieldLink RX4 18 "ChairTooFew$Ring" "chairPlaces" "[I", Cond.fieldLink RX4 22 "ChairTooFew$Ring" "taken" "[Z", Cond.instanceMethod yX3_init, Cond.code yX3_init cX3_init 1 none, Cond.methodLink RX3 3 objectInit, Cond.fieldLink RX3 11 "ChairTooFew$Player" "kind" "I", Cond.fieldLink RX3 15 "ChairTooFew$Player" "figure" "I", Cond.fieldLink RX3 18 "ChairTooFew$Player" "z" "I", Cond.instanceMethod yX5_init, Cond.code yX5_init cX5_init 1 none, Cond.methodLink RX5 3 objectInit, Cond.fieldLink RX5 9 "ChairTooFew$Seating" "seats" "[I", Cond.fieldLink RX5 15 "ChairTooFew$Seating" "hastes" "[I", Cond.fieldLink RX5 18 "ChairTooFew$Seating" "free" "[Z", Cond.fieldLink RX5 22 "ChairTooFew$Seating" "walkers" "I", Cond.fieldLink RX5 26 "ChairTooFew$Seating" "chairs" "I", Cond.instanceMethod yX7_init, Cond.code yX7_init cX7_init 1 none, Cond.methodLink RX7 1 objectInit, Cond.fieldLink RX7 7 "ChairTooFew$Walker" "place" "I"]
def wsL_law_r5 : List Cond := [Cond.fieldLink RX7 13 "ChairTooFew$Walker" "parts" "I", Cond.fieldLink RX7 16 "ChairTooFew$Walker" "in" "Z", Cond.fieldLink RX7 20 "ChairTooFew$Walker" "kind" "I", Cond.fieldLink RX7 23 "ChairTooFew$Walker" "fast" "I", Cond.fieldLink RX7 26 "ChairTooFew$Walker" "slow" "I", Cond.fieldLink RX7 29 "ChairTooFew$Walker" "reach" "I", Cond.fieldLink RX7 32 "ChairTooFew$Walker" "size" "I", Cond.fieldLink RX7 35 "ChairTooFew$Walker" "manners" "I", Cond.methodLink RX8 23 yX2_init, Cond.methodLink RX8 29 yX1_init, Cond.instanceMethod yX1_init, Cond.code yX1_init cX1_init 2 none, Cond.methodLink RX1 3 objectInit, Cond.fieldLink RX1 9 "ChairTooFew$Numbers" "length" "I", Cond.fieldLink RX1 15 "ChairTooFew$Numbers" "numbers" "[I", Cond.instanceMethod yX6_init, Cond.code yX6_init cX6_init 1 none, Cond.methodLink RX6 3 objectInit, Cond.arrayClass .byte, Cond.fieldLink RX6 9 "ChairTooFew$Text" "bytes" "[B", Cond.fieldLink RX6 15 "ChairTooFew$Text" "values" "[I", Cond.fieldLink RX6 19 "ChairTooFew$Text" "at" "I", Cond.fieldLink RX6 23 "ChairTooFew$Text" "used" "I", Cond.fieldLink RX6 26 "ChairTooFew$Text" "length" "I"]
def wsL_law_r6 : List Cond := [Cond.fieldLink RX6 29 "ChairTooFew$Text" "statements" "I", Cond.methodLink RL 12 yX9_init, Cond.instanceMethod yX9_init, Cond.code yX9_init cX9_init 1 none, Cond.methodLink RX9 1 objectInit, Cond.fieldLink RX9 7 "ChairTooFewModel" "refused" "[I", Cond.fieldLink RX9 13 "ChairTooFewModel" "chair" "[I", Cond.fieldLink RX9 16 "ChairTooFewModel" "place" "[I", Cond.fieldLink RX9 19 "ChairTooFewModel" "parts" "[I", Cond.fieldLink RX9 22 "ChairTooFewModel" "in" "[I", Cond.fieldLink RX9 25 "ChairTooFewModel" "kind" "[I", Cond.fieldLink RX9 28 "ChairTooFewModel" "fast" "[I", Cond.fieldLink RX9 31 "ChairTooFewModel" "slow" "[I", Cond.fieldLink RX9 34 "ChairTooFewModel" "reach" "[I", Cond.fieldLink RX9 37 "ChairTooFewModel" "size" "[I", Cond.fieldLink RX9 40 "ChairTooFewModel" "manners" "[I", Cond.fieldLink RX9 43 "ChairTooFewModel" "places" "I", Cond.fieldLink RX9 47 "ChairTooFewModel" "figure" "I", Cond.fieldLink RX9 50 "ChairTooFewModel" "lots" "I", Cond.fieldLink RX9 53 "ChairTooFewModel" "tape" "[I", Cond.fieldLink RX9 56 "ChairTooFewModel" "letter" "[I", Cond.fieldLink RX9 59 "ChairTooFewModel" "letterAt" "[I", Cond.fieldLink RX9 62 "ChairTooFewModel" "first" "[I", Cond.fieldLink RX9 65 "ChairTooFewModel" "second" "[I"]
def wsL_law_r7 : List Cond := [Cond.fieldLink RX9 68 "ChairTooFewModel" "third" "[I", Cond.fieldLink RX9 71 "ChairTooFewModel" "kept" "[I", Cond.fieldLink RX9 74 "ChairTooFewModel" "seat" "[I", Cond.fieldLink RX9 77 "ChairTooFewModel" "often" "[I", Cond.fieldLink RX9 80 "ChairTooFewModel" "row" "[I", Cond.fieldLink RX9 83 "ChairTooFewModel" "film" "[I", Cond.methodLink RL 15 yX8_feed, Cond.instanceMethod yX8_feed, Cond.selects RX8 yX8_feed yX8_feed, Cond.code yX8_feed cX8_feed 4 (some .int), Cond.fieldLink RX8 58 "ChairTooFew$Text" "length" "I", Cond.methodLink RX8 54 yX8_refuse, Cond.instanceMethod yX8_refuse, Cond.selects RX8 yX8_refuse yX8_refuse, Cond.code yX8_refuse cX8_refuse 2 (some .int), Cond.methodLink RX8 62 yX6_append, Cond.instanceMethod yX6_append, Cond.selects RX6 yX6_append yX6_append, Cond.code yX6_append cX6_append 5 none, Cond.methodLink RL 19 yX9_feed, Cond.instanceMethod yX9_feed, Cond.selects RX9 yX9_feed yX9_feed, Cond.code yX9_feed cX9_feed 6 (some .int), Cond.fieldLink RX9 139 "ChairTooFewModel" "taped" "I"]
def wsL_law_r8 : List Cond := [Cond.constantLong RX9 142 (255), Cond.methodLink RX9 112 yX9_bound, Cond.static yX9_bound, Cond.code yX9_bound cX9_bound 3 (some .int), Cond.methodLink RX9 96 yX9_no, Cond.instanceMethod yX9_no, Cond.selects RX9 yX9_no yX9_no, Cond.code yX9_no cX9_no 2 (some .int), Cond.methodLink RL 20 yX8_party, Cond.instanceMethod yX8_party, Cond.selects RX8 yX8_party yX8_party, Cond.code yX8_party cX8_party 2 (some .int), Cond.methodLink RX8 66 yX0_readParty, Cond.instanceMethod yX0_readParty, Cond.selects RX0 yX0_readParty yX0_readParty, Cond.code yX0_readParty cX0_readParty 3 (some .int), Cond.fieldLink RX0 46 "ChairTooFew$Text" "statements" "I", Cond.methodLink RX0 32 yX6_firstMisfit, Cond.instanceMethod yX6_firstMisfit, Cond.selects RX6 yX6_firstMisfit yX6_firstMisfit, Cond.code yX6_firstMisfit cX6_firstMisfit 2 (some .int), Cond.methodLink RX6 32 yX6_begin, Cond.instanceMethod yX6_begin, Cond.selects RX6 yX6_begin yX6_begin]
def wsL_law_r9 : List Cond := [Cond.code yX6_begin cX6_begin 1 none, Cond.methodLink RX6 35 yX6_readStatement, Cond.instanceMethod yX6_readStatement, Cond.selects RX6 yX6_readStatement yX6_readStatement, Cond.code yX6_readStatement cX6_readStatement 3 (some .boolean), Cond.methodLink RX6 39 yX6_signAhead, Cond.instanceMethod yX6_signAhead, Cond.selects RX6 yX6_signAhead yX6_signAhead, Cond.code yX6_signAhead cX6_signAhead 1 (some .int), Cond.methodLink RX6 47 yX6_shapeOf, Cond.static yX6_shapeOf, Cond.code yX6_shapeOf cX6_shapeOf 1 (some (.object "java/lang/String")), Cond.methodLink RX6 51 yJ0_length_8abf5, Cond.instanceMethod yJ0_length_8abf5, Cond.selects RJ0 yJ0_length_8abf5 yJ0_length_8abf5, Cond.initialized RJ0, Cond.code yJ0_length_8abf5 cJ0_length_8abf5 1 (some .int), Cond.fieldLink RJ0 9 "java/lang/String" "value" "[B", Cond.methodLink RJ0 335 yJ0_coder_7d493, Cond.instanceMethod yJ0_coder_7d493, Cond.selects RJ0 yJ0_coder_7d493 yJ0_coder_7d493, Cond.code yJ0_coder_7d493 cJ0_coder_7d493 1 (some .byte), Cond.fieldLink RJ0 38 "java/lang/String" "COMPACT_STRINGS" "Z", Cond.fieldLink RJ0 15 "java/lang/String" "coder" "B"]
def wsL_law_r10 : List Cond := [Cond.methodLink RX6 55 yJ0_charAt_5068e, Cond.instanceMethod yJ0_charAt_5068e, Cond.selects RJ0 yJ0_charAt_5068e yJ0_charAt_5068e, Cond.code yJ0_charAt_5068e cJ0_charAt_5068e 2 (some .char), Cond.methodLink RJ0 492 yJ0_isLatin1_aae02, Cond.instanceMethod yJ0_isLatin1_aae02, Cond.selects RJ0 yJ0_isLatin1_aae02 yJ0_isLatin1_aae02, Cond.code yJ0_isLatin1_aae02 cJ0_isLatin1_aae02 1 (some .boolean), Cond.methodLink RJ0 495 yJ1_charAt_3b067, Cond.static yJ1_charAt_3b067, Cond.initialized RJ1, Cond.code yJ1_charAt_3b067 cJ1_charAt_3b067 2 (some .char), Cond.methodLink RJ1 9 yJ0_checkIndex_df160, Cond.static yJ0_checkIndex_df160, Cond.code yJ0_checkIndex_df160 cJ0_checkIndex_df160 2 none, Cond.fieldLink RJ0 1053 "jdk/internal/util/Preconditions" "SIOOBE_FORMATTER" "Ljava/util/function/BiFunction;", Cond.methodLink RJ0 1059 yJ3_checkIndex_8e157, Cond.static yJ3_checkIndex_8e157, Cond.initialized RJ3, Cond.code yJ3_checkIndex_8e157 cJ3_checkIndex_8e157 3 (some .int), Cond.methodLink RJ0 498 yJ2_charAt_3b067, Cond.static yJ2_charAt_3b067, Cond.initialized RJ2, Cond.code yJ2_charAt_3b067 cJ2_charAt_3b067 2 (some .char)]
def wsL_law_r11 : List Cond := [Cond.methodLink RJ2 67 yJ2_checkIndex_2214a, Cond.static yJ2_checkIndex_2214a, Cond.code yJ2_checkIndex_2214a cJ2_checkIndex_2214a 2 none, Cond.methodLink RJ2 48 yJ2_length_9d52b, Cond.static yJ2_length_9d52b, Cond.code yJ2_length_9d52b cJ2_length_9d52b 1 (some .int), Cond.methodLink RJ2 414 yJ0_checkIndex_df160, Cond.methodLink RJ2 71 yJ2_getChar_3b067, Cond.static yJ2_getChar_3b067, Cond.code yJ2_getChar_3b067 cJ2_getChar_3b067 2 (some .char), Cond.fieldLink RJ2 44 "java/lang/StringUTF16" "$assertionsDisabled" "Z", Cond.fieldLink RJ2 59 "java/lang/StringUTF16" "HI_BYTE_SHIFT" "I", Cond.fieldLink RJ2 63 "java/lang/StringUTF16" "LO_BYTE_SHIFT" "I", Cond.methodLink RX6 59 yX6_readPart, Cond.instanceMethod yX6_readPart, Cond.selects RX6 yX6_readPart yX6_readPart, Cond.code yX6_readPart cX6_readPart 2 (some .boolean), Cond.methodLink RX6 78 yX6_readDigits, Cond.instanceMethod yX6_readDigits, Cond.selects RX6 yX6_readDigits yX6_readDigits, Cond.code yX6_readDigits cX6_readDigits 4 (some .boolean), Cond.methodLink RX6 82 yX6_isDigit, Cond.static yX6_isDigit, Cond.code yX6_isDigit cX6_isDigit 1 (some .boolean)]
def wsL_law_r12 : List Cond := [Cond.methodLink RX6 63 yJ0_isEmpty_aae02, Cond.instanceMethod yJ0_isEmpty_aae02, Cond.selects RJ0 yJ0_isEmpty_aae02 yJ0_isEmpty_aae02, Cond.code yJ0_isEmpty_aae02 cJ0_isEmpty_aae02 1 (some .boolean), Cond.methodLink RX0 38 yX2_become, Cond.instanceMethod yX2_become, Cond.selects RX2 yX2_become yX2_become, Cond.code yX2_become cX2_become 3 none, Cond.methodLink RX2 70 arraycopyName, Cond.native arraycopyName, Cond.static arraycopyName, Cond.initialized "java/lang/System", Cond.methodLink RX2 60 yX4_become, Cond.instanceMethod yX4_become, Cond.selects RX4 yX4_become yX4_become, Cond.code yX4_become cX4_become 2 none, Cond.methodLink RX4 26 arraycopyName, Cond.methodLink RX2 64 yX3_become, Cond.instanceMethod yX3_become, Cond.selects RX3 yX3_become yX3_become, Cond.code yX3_become cX3_become 2 none, Cond.methodLink RX2 67 yX7_become, Cond.instanceMethod yX7_become, Cond.selects RX7 yX7_become yX7_become]
def wsL_law_r13 : List Cond := [Cond.code yX7_become cX7_become 2 none, Cond.methodLink RX0 42 yX6_firstImpossible, Cond.instanceMethod yX6_firstImpossible, Cond.selects RX6 yX6_firstImpossible yX6_firstImpossible, Cond.code yX6_firstImpossible cX6_firstImpossible 5 (some .int), Cond.methodLink RX6 43 yX6_comesTrue, Cond.instanceMethod yX6_comesTrue, Cond.selects RX6 yX6_comesTrue yX6_comesTrue, Cond.code yX6_comesTrue cX6_comesTrue 3 (some .boolean), Cond.methodLink RX6 85 yX6_resize, Cond.instanceMethod yX6_resize, Cond.selects RX6 yX6_resize yX6_resize, Cond.code yX6_resize cX6_resize 3 (some .boolean), Cond.fieldLink RX6 105 "ChairTooFew$Party" "ring" "LChairTooFew$Ring;", Cond.fieldLink RX6 111 "ChairTooFew$Ring" "chairs" "I", Cond.fieldLink RX6 116 "ChairTooFew$Party" "walkerCount" "I", Cond.fieldLink RX6 119 "ChairTooFew$Ring" "places" "I", Cond.static yX8_whyNotWithin, Cond.code yX8_whyNotWithin cX8_whyNotWithin 3 (some .int), Cond.methodLink RX6 89 yX6_seatMore, Cond.instanceMethod yX6_seatMore, Cond.selects RX6 yX6_seatMore yX6_seatMore, Cond.code yX6_seatMore cX6_seatMore 3 (some .boolean), Cond.methodLink RX6 122 yX2_whyNoChair]
def wsL_law_r14 : List Cond := [Cond.instanceMethod yX2_whyNoChair, Cond.selects RX2 yX2_whyNoChair yX2_whyNoChair, Cond.code yX2_whyNoChair cX2_whyNoChair 2 (some .int), Cond.fieldLink RX2 87 "ChairTooFew$Ring" "chairs" "I", Cond.methodLink RX2 90 yX4_isPlace, Cond.instanceMethod yX4_isPlace, Cond.selects RX4 yX4_isPlace yX4_isPlace, Cond.code yX4_isPlace cX4_isPlace 2 (some .boolean), Cond.methodLink RX2 93 yX4_hasChair, Cond.instanceMethod yX4_hasChair, Cond.selects RX4 yX4_hasChair yX4_hasChair, Cond.code yX4_hasChair cX4_hasChair 2 (some .boolean), Cond.methodLink RX6 126 yX2_addChair, Cond.instanceMethod yX2_addChair, Cond.selects RX2 yX2_addChair yX2_addChair, Cond.code yX2_addChair cX2_addChair 2 (some .int), Cond.methodLink RX2 96 yX4_putChair, Cond.instanceMethod yX4_putChair, Cond.selects RX4 yX4_putChair yX4_putChair, Cond.code yX4_putChair cX4_putChair 3 none, Cond.methodLink RX6 92 yX6_walkerMore, Cond.instanceMethod yX6_walkerMore, Cond.selects RX6 yX6_walkerMore yX6_walkerMore, Cond.code yX6_walkerMore cX6_walkerMore 3 (some .boolean)]
def wsL_law_r15 : List Cond := [Cond.methodLink RX6 129 yX2_whyNoWalker, Cond.instanceMethod yX2_whyNoWalker, Cond.selects RX2 yX2_whyNoWalker yX2_whyNoWalker, Cond.code yX2_whyNoWalker cX2_whyNoWalker 5 (some .int), Cond.methodLink RX2 104 yX2_isStoodOn, Cond.instanceMethod yX2_isStoodOn, Cond.selects RX2 yX2_isStoodOn yX2_isStoodOn, Cond.code yX2_isStoodOn cX2_isStoodOn 2 (some .boolean), Cond.methodLink RX6 132 yX2_addWalker, Cond.instanceMethod yX2_addWalker, Cond.selects RX2 yX2_addWalker yX2_addWalker, Cond.code yX2_addWalker cX2_addWalker 5 (some .int), Cond.methodLink RX2 107 yX7_arrive, Cond.instanceMethod yX7_arrive, Cond.selects RX7 yX7_arrive yX7_arrive, Cond.code yX7_arrive cX7_arrive 4 none, Cond.methodLink RX2 111 yX2_mark, Cond.instanceMethod yX2_mark, Cond.selects RX2 yX2_mark yX2_mark, Cond.code yX2_mark cX2_mark 3 none, Cond.methodLink RX6 95 yX6_newPlayer, Cond.instanceMethod yX6_newPlayer, Cond.selects RX6 yX6_newPlayer yX6_newPlayer, Cond.code yX6_newPlayer cX6_newPlayer 3 (some .boolean)]
def wsL_law_r16 : List Cond := [Cond.fieldLink RX6 135 "ChairTooFew$Party" "player" "LChairTooFew$Player;", Cond.fieldLink RX6 145 "ChairTooFew$Player" "kind" "I", Cond.fieldLink RX6 148 "ChairTooFew$Player" "figure" "I", Cond.methodLink RX6 139 yX3_whyNot, Cond.instanceMethod yX3_whyNot, Cond.selects RX3 yX3_whyNot yX3_whyNot, Cond.code yX3_whyNot cX3_whyNot 3 (some .int), Cond.methodLink RX6 98 yX6_newForm, Cond.instanceMethod yX6_newForm, Cond.selects RX6 yX6_newForm yX6_newForm, Cond.code yX6_newForm cX6_newForm 3 (some .boolean), Cond.fieldLink RX6 151 "ChairTooFew$Party" "form" "I", Cond.methodLink RL 24 yX9_party, Cond.instanceMethod yX9_party, Cond.selects RX9 yX9_party yX9_party, Cond.code yX9_party cX9_party 3 (some .int), Cond.fieldLink RX9 144 "ChairTooFewModel" "at" "I", Cond.fieldLink RX9 150 "ChairTooFewModel" "statements" "I", Cond.methodLink RX9 159 yX9_statement, Cond.instanceMethod yX9_statement, Cond.selects RX9 yX9_statement yX9_statement, Cond.code yX9_statement cX9_statement 3 (some .boolean), Cond.methodLink RX9 147 yX9_sign, Cond.instanceMethod yX9_sign]
def wsL_law_r17 : List Cond := [Cond.selects RX9 yX9_sign yX9_sign, Cond.code yX9_sign cX9_sign 1 (some .int), Cond.methodLink RX9 153 yX9_number, Cond.instanceMethod yX9_number, Cond.selects RX9 yX9_number yX9_number, Cond.code yX9_number cX9_number 4 (some .int), Cond.methodLink RX9 108 yX9_isIn, Cond.static yX9_isIn, Cond.code yX9_isIn cX9_isIn 3 (some .boolean), Cond.methodLink RX9 156 yX9_takes, Cond.instanceMethod yX9_takes, Cond.selects RX9 yX9_takes yX9_takes, Cond.code yX9_takes cX9_takes 2 (some .boolean), Cond.methodLink RX9 163 yX9_passesAll, Cond.instanceMethod yX9_passesAll, Cond.selects RX9 yX9_passesAll yX9_passesAll, Cond.code yX9_passesAll cX9_passesAll 3 none, Cond.fieldLink RX9 174 "ChairTooFewModel" "cursor" "I", Cond.fieldLink RX9 170 "ChairTooFewModel" "isKeeping" "Z", Cond.fieldLink RX9 86 "ChairTooFewModel" "walkers" "I", Cond.fieldLink RX9 126 "ChairTooFewModel" "playerKind" "I", Cond.fieldLink RX9 129 "ChairTooFewModel" "form" "I", Cond.fieldLink RX9 184 "ChairTooFewModel" "tenths" "I", Cond.fieldLink RX9 187 "ChairTooFewModel" "rounds" "I"]
def wsL_law_r18 : List Cond := [Cond.fieldLink RX9 89 "ChairTooFewModel" "hasEnded" "I", Cond.methodLink RX9 177 yX9_passes, Cond.instanceMethod yX9_passes, Cond.selects RX9 yX9_passes yX9_passes, Cond.code yX9_passes cX9_passes 3 none, Cond.methodLink RX9 181 yX9_passOne, Cond.instanceMethod yX9_passOne, Cond.selects RX9 yX9_passOne yX9_passOne, Cond.code yX9_passOne cX9_passOne 3 (some .int), Cond.methodLink RX9 167 yX9_comes, Cond.instanceMethod yX9_comes, Cond.selects RX9 yX9_comes yX9_comes, Cond.code yX9_comes cX9_comes 3 (some .boolean), Cond.methodLink RX9 100 yX9_chairs, Cond.instanceMethod yX9_chairs, Cond.selects RX9 yX9_chairs yX9_chairs, Cond.code yX9_chairs cX9_chairs 3 (some .int), Cond.methodLink RX9 92 yX9_isPlace, Cond.instanceMethod yX9_isPlace, Cond.selects RX9 yX9_isPlace yX9_isPlace, Cond.code yX9_isPlace cX9_isPlace 2 (some .boolean), Cond.methodLink RX9 104 yX9_comesChair, Cond.instanceMethod yX9_comesChair, Cond.selects RX9 yX9_comesChair yX9_comesChair]
def wsL_law_r19 : List Cond := [Cond.code yX9_comesChair cX9_comesChair 2 none, Cond.methodLink RX9 116 yX9_isTaken, Cond.instanceMethod yX9_isTaken, Cond.selects RX9 yX9_isTaken yX9_isTaken, Cond.code yX9_isTaken cX9_isTaken 3 (some .boolean), Cond.methodLink RX9 119 yX9_comesWalker, Cond.instanceMethod yX9_comesWalker, Cond.selects RX9 yX9_comesWalker yX9_comesWalker, Cond.code yX9_comesWalker cX9_comesWalker 4 none, Cond.methodLink RL 25 yX8_chair, Cond.instanceMethod yX8_chair, Cond.selects RX8 yX8_chair yX8_chair, Cond.code yX8_chair cX8_chair 3 (some .int), Cond.methodLink RX8 70 yX2_whyNoChair, Cond.methodLink RX8 73 yX2_addChair, Cond.methodLink RL 29 yX9_chair, Cond.instanceMethod yX9_chair, Cond.selects RX9 yX9_chair yX9_chair, Cond.code yX9_chair cX9_chair 2 (some .int), Cond.methodLink RL 30 yX8_walker, Cond.instanceMethod yX8_walker, Cond.selects RX8 yX8_walker yX8_walker, Cond.code yX8_walker cX8_walker 5 (some .int), Cond.methodLink RX8 76 yX2_whyNoWalker]
def wsL_law_r20 : List Cond := [Cond.methodLink RX8 80 yX2_addWalker, Cond.methodLink RL 34 yX9_walker, Cond.instanceMethod yX9_walker, Cond.selects RX9 yX9_walker yX9_walker, Cond.code yX9_walker cX9_walker 5 (some .int), Cond.methodLink RL 35 yX8_set, Cond.instanceMethod yX8_set, Cond.selects RX8 yX8_set yX8_set, Cond.code yX8_set cX8_set 4 (some .int), Cond.fieldLink RX8 93 "ChairTooFew$Party" "walkers" "[LChairTooFew$Walker;", Cond.methodLink RX8 83 yX2_knows, Cond.instanceMethod yX2_knows, Cond.selects RX2 yX2_knows yX2_knows, Cond.code yX2_knows cX2_knows 2 (some .boolean), Cond.methodLink RX8 87 yX8_leastOf, Cond.static yX8_leastOf, Cond.code yX8_leastOf cX8_leastOf 1 (some .int), Cond.methodLink RX8 90 yX8_greatestOf, Cond.static yX8_greatestOf, Cond.code yX8_greatestOf cX8_greatestOf 1 (some .int), Cond.methodLink RX8 97 yX7_change, Cond.instanceMethod yX7_change, Cond.selects RX7 yX7_change yX7_change, Cond.code yX7_change cX7_change 4 (some .int)]
def wsL_law_r21 : List Cond := [Cond.methodLink RL 38 yX9_set, Cond.instanceMethod yX9_set, Cond.selects RX9 yX9_set yX9_set, Cond.code yX9_set cX9_set 7 (some .int), Cond.methodLink RX9 123 yX9_isWalker, Cond.instanceMethod yX9_isWalker, Cond.selects RX9 yX9_isWalker yX9_isWalker, Cond.code yX9_isWalker cX9_isWalker 2 (some .boolean), Cond.methodLink RL 39 yX8_player, Cond.instanceMethod yX8_player, Cond.selects RX8 yX8_player yX8_player, Cond.code yX8_player cX8_player 5 (some .int), Cond.fieldLink RX8 103 "ChairTooFew$Party" "player" "LChairTooFew$Player;", Cond.fieldLink RX8 112 "ChairTooFew$Player" "kind" "I", Cond.fieldLink RX8 115 "ChairTooFew$Player" "figure" "I", Cond.methodLink RX8 107 yX3_whyNot, Cond.methodLink RL 43 yX9_player, Cond.instanceMethod yX9_player, Cond.selects RX9 yX9_player yX9_player, Cond.code yX9_player cX9_player 5 (some .int), Cond.methodLink RL 44 yX8_form, Cond.instanceMethod yX8_form, Cond.selects RX8 yX8_form yX8_form, Cond.code yX8_form cX8_form 4 (some .int)]
def wsL_law_r22 : List Cond := [Cond.fieldLink RX8 121 "ChairTooFew$Party" "form" "I", Cond.methodLink RX8 118 yX8_whyNotWithin, Cond.methodLink RL 47 yX9_form, Cond.instanceMethod yX9_form, Cond.selects RX9 yX9_form yX9_form, Cond.code yX9_form cX9_form 4 (some .int), Cond.methodLink RL 48 yX8_seed, Cond.instanceMethod yX8_seed, Cond.selects RX8 yX8_seed yX8_seed, Cond.code yX8_seed cX8_seed 3 (some .int), Cond.fieldLink RX8 124 "ChairTooFew$Player" "z" "I", Cond.methodLink RL 51 yX9_seed, Cond.instanceMethod yX9_seed, Cond.selects RX9 yX9_seed yX9_seed, Cond.code yX9_seed cX9_seed 3 (some .int), Cond.methodLink RL 52 yX8_of, Cond.instanceMethod yX8_of, Cond.selects RX8 yX8_of yX8_of, Cond.code yX8_of cX8_of 3 (some .int), Cond.methodLink RX8 127 yX7_tell, Cond.instanceMethod yX7_tell, Cond.selects RX7 yX7_tell yX7_tell, Cond.code yX7_tell cX7_tell 2 (some .int), Cond.methodLink RL 55 yX9_of]
def wsL_law_r23 : List Cond := [Cond.instanceMethod yX9_of, Cond.selects RX9 yX9_of yX9_of, Cond.code yX9_of cX9_of 3 (some .int), Cond.methodLink RL 56 yX8_has, Cond.instanceMethod yX8_has, Cond.selects RX8 yX8_has yX8_has, Cond.code yX8_has cX8_has 2 (some .int), Cond.fieldLink RX8 130 "ChairTooFew$Party" "ring" "LChairTooFew$Ring;", Cond.methodLink RX8 134 yX4_isPlace, Cond.methodLink RX8 139 yX4_hasChair, Cond.methodLink RL 59 yX9_has, Cond.instanceMethod yX9_has, Cond.selects RX9 yX9_has yX9_has, Cond.code yX9_has cX9_has 2 (some .int), Cond.methodLink RL 60 yX8_haste, Cond.instanceMethod yX8_haste, Cond.selects RX8 yX8_haste yX8_haste, Cond.code yX8_haste cX8_haste 4 (some .int), Cond.fieldLink RX8 142 "ChairTooFew$Walker" "place" "I", Cond.methodLink RX8 145 yX4_far, Cond.instanceMethod yX4_far, Cond.selects RX4 yX4_far yX4_far, Cond.code yX4_far cX4_far 4 (some .int), Cond.methodLink RX8 148 yX7_hasteOver]
def wsL_law_r24 : List Cond := [Cond.instanceMethod yX7_hasteOver, Cond.selects RX7 yX7_hasteOver yX7_hasteOver, Cond.code yX7_hasteOver cX7_hasteOver 4 (some .int), Cond.methodLink RL 63 yX9_haste, Cond.instanceMethod yX9_haste, Cond.selects RX9 yX9_haste yX9_haste, Cond.code yX9_haste cX9_haste 3 (some .int), Cond.methodLink RX9 136 yX9_hasteOf, Cond.instanceMethod yX9_hasteOf, Cond.selects RX9 yX9_hasteOf yX9_hasteOf, Cond.code yX9_hasteOf cX9_hasteOf 5 (some .int), Cond.methodLink RX9 132 yX9_far, Cond.instanceMethod yX9_far, Cond.selects RX9 yX9_far yX9_far, Cond.code yX9_far cX9_far 4 (some .int), Cond.methodLink RL 64 yX8_go, Cond.instanceMethod yX8_go, Cond.selects RX8 yX8_go yX8_go, Cond.code yX8_go cX8_go 4 (some .int), Cond.fieldLink RX8 162 "ChairTooFew$Party" "ended" "Z", Cond.methodLink RX8 151 yX2_canGoOn, Cond.instanceMethod yX2_canGoOn, Cond.selects RX2 yX2_canGoOn yX2_canGoOn, Cond.code yX2_canGoOn cX2_canGoOn 1 (some .boolean)]
def wsL_law_r25 : List Cond := [Cond.methodLink RX2 83 yX2_countIn, Cond.instanceMethod yX2_countIn, Cond.selects RX2 yX2_countIn yX2_countIn, Cond.code yX2_countIn cX2_countIn 3 (some .int), Cond.methodLink RX2 79 yX2_knowsIn, Cond.instanceMethod yX2_knowsIn, Cond.selects RX2 yX2_knowsIn yX2_knowsIn, Cond.code yX2_knowsIn cX2_knowsIn 2 (some .boolean), Cond.fieldLink RX2 76 "ChairTooFew$Walker" "in" "Z", Cond.methodLink RX8 155 yX2_passTenth, Cond.instanceMethod yX2_passTenth, Cond.selects RX2 yX2_passTenth yX2_passTenth, Cond.code yX2_passTenth cX2_passTenth 2 (some .boolean), Cond.methodLink RX2 133 yX2_walkAll, Cond.instanceMethod yX2_walkAll, Cond.selects RX2 yX2_walkAll yX2_walkAll, Cond.code yX2_walkAll cX2_walkAll 2 none, Cond.methodLink RX2 115 yX2_walk, Cond.instanceMethod yX2_walk, Cond.selects RX2 yX2_walk yX2_walk, Cond.code yX2_walk cX2_walk 3 none, Cond.fieldLink RX2 118 "ChairTooFew$Walker" "parts" "I", Cond.fieldLink RX2 121 "ChairTooFew$Walker" "place" "I", Cond.fieldLink RX2 124 "ChairTooFew$Walker" "slow" "I"]
def wsL_law_r26 : List Cond := [Cond.fieldLink RX2 127 "ChairTooFew$Walker" "fast" "I", Cond.fieldLink RX2 130 "ChairTooFew$Ring" "places" "I", Cond.methodLink RX2 136 yX3_drawAgain, Cond.instanceMethod yX3_drawAgain, Cond.selects RX3 yX3_drawAgain yX3_drawAgain, Cond.code yX3_drawAgain cX3_drawAgain 1 (some .int), Cond.constant RX3 25 (1103515245), Cond.constant RX3 26 (2147483647), Cond.constant RX3 27 (65536), Cond.methodLink RX2 139 yX2_isLikedAtChair, Cond.instanceMethod yX2_isLikedAtChair, Cond.selects RX2 yX2_isLikedAtChair yX2_isLikedAtChair, Cond.code yX2_isLikedAtChair cX2_isLikedAtChair 2 (some .boolean), Cond.fieldLink RX2 147 "ChairTooFew$Player" "kind" "I", Cond.fieldLink RX2 150 "ChairTooFew$Player" "figure" "I", Cond.methodLink RX2 143 yX3_stopsIn, Cond.instanceMethod yX3_stopsIn, Cond.selects RX3 yX3_stopsIn yX3_stopsIn, Cond.code yX3_stopsIn cX3_stopsIn 4 (some .boolean), Cond.methodLink RX8 158 yX2_endRound, Cond.instanceMethod yX2_endRound, Cond.selects RX2 yX2_endRound yX2_endRound, Cond.code yX2_endRound cX2_endRound 2 (some .int), Cond.methodLink RX2 153 yX5_seatAll]
def wsL_law_r27 : List Cond := [Cond.instanceMethod yX5_seatAll, Cond.selects RX5 yX5_seatAll yX5_seatAll, Cond.code yX5_seatAll cX5_seatAll 4 none, Cond.fieldLink RX5 37 "ChairTooFew$Party" "walkers" "[LChairTooFew$Walker;", Cond.fieldLink RX5 42 "ChairTooFew$Walker" "kind" "I", Cond.methodLink RX5 29 yX5_measure, Cond.instanceMethod yX5_measure, Cond.selects RX5 yX5_measure yX5_measure, Cond.code yX5_measure cX5_measure 7 none, Cond.fieldLink RX5 61 "ChairTooFew$Party" "walkerCount" "I", Cond.fieldLink RX5 64 "ChairTooFew$Party" "ring" "LChairTooFew$Ring;", Cond.fieldLink RX5 68 "ChairTooFew$Ring" "chairs" "I", Cond.fieldLink RX5 69 "ChairTooFew$Walker" "place" "I", Cond.fieldLink RX5 76 "ChairTooFew$Walker" "in" "Z", Cond.fieldLink RX5 80 "ChairTooFew$Walker" "reach" "I", Cond.constant RX5 86 (2147483647), Cond.methodLink RX5 55 yX4_placeOfChair, Cond.instanceMethod yX4_placeOfChair, Cond.selects RX4 yX4_placeOfChair yX4_placeOfChair, Cond.code yX4_placeOfChair cX4_placeOfChair 2 (some .int), Cond.methodLink RX5 72 yX4_far, Cond.methodLink RX5 83 yX7_hasteOver, Cond.methodLink RX5 33 yX5_seatLeastHaste, Cond.instanceMethod yX5_seatLeastHaste]
def wsL_law_r28 : List Cond := [Cond.selects RX5 yX5_seatLeastHaste yX5_seatLeastHaste, Cond.code yX5_seatLeastHaste cX5_seatLeastHaste 6 (some .boolean), Cond.methodLink RX5 47 yX5_giveWay, Cond.instanceMethod yX5_giveWay, Cond.selects RX5 yX5_giveWay yX5_giveWay, Cond.code yX5_giveWay cX5_giveWay 5 none, Cond.methodLink RX2 157 yX2_whoGoes, Cond.instanceMethod yX2_whoGoes, Cond.selects RX2 yX2_whoGoes yX2_whoGoes, Cond.code yX2_whoGoes cX2_whoGoes 5 (some .int), Cond.methodLink RX2 173 yX5_isSeated, Cond.instanceMethod yX5_isSeated, Cond.selects RX5 yX5_isSeated yX5_isSeated, Cond.code yX5_isSeated cX5_isSeated 2 (some .boolean), Cond.methodLink RX2 176 yX4_farFromChairs, Cond.instanceMethod yX4_farFromChairs, Cond.selects RX4 yX4_farFromChairs yX4_farFromChairs, Cond.code yX4_farFromChairs cX4_farFromChairs 5 (some .int), Cond.methodLink RX4 32 yX4_placeOfChair, Cond.methodLink RX4 36 yX4_far, Cond.methodLink RX2 160 yX2_losesChair, Cond.instanceMethod yX2_losesChair, Cond.selects RX2 yX2_losesChair yX2_losesChair, Cond.code yX2_losesChair cX2_losesChair 2 (some .boolean)]
def wsL_law_r29 : List Cond := [Cond.methodLink RX2 163 yX4_leavingPlace, Cond.instanceMethod yX4_leavingPlace, Cond.selects RX4 yX4_leavingPlace yX4_leavingPlace, Cond.code yX4_leavingPlace cX4_leavingPlace 2 (some .int), Cond.methodLink RX4 44 yX4_mostCrowdedChair, Cond.instanceMethod yX4_mostCrowdedChair, Cond.selects RX4 yX4_mostCrowdedChair yX4_mostCrowdedChair, Cond.code yX4_mostCrowdedChair cX4_mostCrowdedChair 7 (some .int), Cond.constant RX4 48 (2147483647), Cond.methodLink RX4 49 yX4_wayOn, Cond.instanceMethod yX4_wayOn, Cond.selects RX4 yX4_wayOn yX4_wayOn, Cond.code yX4_wayOn cX4_wayOn 3 (some .int), Cond.methodLink RX2 167 yX4_takeChair, Cond.instanceMethod yX4_takeChair, Cond.selects RX4 yX4_takeChair yX4_takeChair, Cond.code yX4_takeChair cX4_takeChair 4 none, Cond.methodLink RX4 40 yX4_hasChair, Cond.methodLink RX2 170 yX2_knows, Cond.methodLink RL 67 yX9_go, Cond.instanceMethod yX9_go, Cond.selects RX9 yX9_go yX9_go, Cond.code yX9_go cX9_go 4 (some .int), Cond.methodLink RX9 233 yX9_isOver]
def wsL_law_r30 : List Cond := [Cond.instanceMethod yX9_isOver, Cond.selects RX9 yX9_isOver yX9_isOver, Cond.code yX9_isOver cX9_isOver 1 (some .boolean), Cond.methodLink RX9 218 yX9_ins, Cond.instanceMethod yX9_ins, Cond.selects RX9 yX9_ins yX9_ins, Cond.code yX9_ins cX9_ins 3 (some .int), Cond.methodLink RX9 236 yX9_goesOn, Cond.instanceMethod yX9_goesOn, Cond.selects RX9 yX9_goesOn yX9_goesOn, Cond.code yX9_goesOn cX9_goesOn 1 (some .boolean), Cond.methodLink RX9 224 yX9_walks, Cond.instanceMethod yX9_walks, Cond.selects RX9 yX9_walks yX9_walks, Cond.code yX9_walks cX9_walks 3 none, Cond.methodLink RX9 227 yX9_doesStop, Cond.instanceMethod yX9_doesStop, Cond.selects RX9 yX9_doesStop yX9_doesStop, Cond.code yX9_doesStop cX9_doesStop 3 (some .boolean), Cond.constant RX9 221 (1103515245), Cond.constant RX9 222 (2147483647), Cond.constant RX9 223 (65536), Cond.methodLink RX9 230 yX9_stops, Cond.instanceMethod yX9_stops]
def wsL_law_r31 : List Cond := [Cond.selects RX9 yX9_stops yX9_stops, Cond.code yX9_stops cX9_stops 2 (some .int), Cond.methodLink RX9 209 yX9_sit, Cond.instanceMethod yX9_sit, Cond.selects RX9 yX9_sit yX9_sit, Cond.code yX9_sit cX9_sit 3 none, Cond.methodLink RX9 197 yX9_seatsOne, Cond.instanceMethod yX9_seatsOne, Cond.selects RX9 yX9_seatsOne yX9_seatsOne, Cond.code yX9_seatsOne cX9_seatsOne 5 (some .boolean), Cond.methodLink RX9 190 yX9_isSeat, Cond.instanceMethod yX9_isSeat, Cond.selects RX9 yX9_isSeat yX9_isSeat, Cond.code yX9_isSeat cX9_isSeat 3 (some .boolean), Cond.methodLink RX9 193 yX9_mayReach, Cond.instanceMethod yX9_mayReach, Cond.selects RX9 yX9_mayReach yX9_mayReach, Cond.code yX9_mayReach cX9_mayReach 3 (some .boolean), Cond.methodLink RX9 200 yX9_judges, Cond.instanceMethod yX9_judges, Cond.selects RX9 yX9_judges yX9_judges, Cond.code yX9_judges cX9_judges 3 none, Cond.methodLink RX9 212 yX9_goer, Cond.instanceMethod yX9_goer]
def wsL_law_r32 : List Cond := [Cond.selects RX9 yX9_goer yX9_goer, Cond.code yX9_goer cX9_goer 3 (some .int), Cond.methodLink RX9 203 yX9_nearest, Cond.instanceMethod yX9_nearest, Cond.selects RX9 yX9_nearest yX9_nearest, Cond.code yX9_nearest cX9_nearest 4 (some .int), Cond.methodLink RX9 215 yX9_leaver, Cond.instanceMethod yX9_leaver, Cond.selects RX9 yX9_leaver yX9_leaver, Cond.code yX9_leaver cX9_leaver 3 (some .int), Cond.methodLink RX9 206 yX9_ways, Cond.instanceMethod yX9_ways, Cond.selects RX9 yX9_ways yX9_ways, Cond.code yX9_ways cX9_ways 4 (some .int), Cond.methodLink RL 68 yX8_stop, Cond.instanceMethod yX8_stop, Cond.selects RX8 yX8_stop yX8_stop, Cond.code yX8_stop cX8_stop 1 (some .int), Cond.methodLink RL 71 yX9_stop, Cond.instanceMethod yX9_stop, Cond.selects RX9 yX9_stop yX9_stop, Cond.code yX9_stop cX9_stop 1 (some .int), Cond.methodLink RL 72 yX8_sits, Cond.instanceMethod yX8_sits]
def wsL_law_r33 : List Cond := [Cond.selects RX8 yX8_sits yX8_sits, Cond.code yX8_sits cX8_sits 2 (some .int), Cond.fieldLink RX8 168 "ChairTooFew$Party" "seating" "LChairTooFew$Seating;", Cond.methodLink RX8 165 yX2_knowsIn, Cond.methodLink RX8 172 yX5_seatAll, Cond.methodLink RX8 178 yX5_placeOf, Cond.instanceMethod yX5_placeOf, Cond.selects RX5 yX5_placeOf yX5_placeOf, Cond.code yX5_placeOf cX5_placeOf 3 (some .int), Cond.methodLink RX5 51 yX5_isSeated, Cond.methodLink RL 75 yX9_sits, Cond.instanceMethod yX9_sits, Cond.selects RX9 yX9_sits yX9_sits, Cond.code yX9_sits cX9_sits 2 (some .int), Cond.methodLink RX9 239 yX9_isThere, Cond.instanceMethod yX9_isThere, Cond.selects RX9 yX9_isThere yX9_isThere, Cond.code yX9_isThere cX9_isThere 2 (some .boolean), Cond.methodLink RL 76 yX8_would, Cond.instanceMethod yX8_would, Cond.selects RX8 yX8_would yX8_would, Cond.code yX8_would cX8_would 3 (some .int), Cond.methodLink RX8 182 yX2_whoGoes, Cond.methodLink RX8 185 yX2_losesChair]
def wsL_law_r34 : List Cond := [Cond.methodLink RX8 188 yX4_leavingPlace, Cond.methodLink RL 79 yX9_would, Cond.instanceMethod yX9_would, Cond.selects RX9 yX9_would yX9_would, Cond.code yX9_would cX9_would 2 (some .int), Cond.methodLink RL 80 yX8_odds, Cond.instanceMethod yX8_odds, Cond.selects RX8 yX8_odds yX8_odds, Cond.code yX8_odds cX8_odds 4 (some .int), Cond.fieldLink RX8 191 "ChairTooFew$Walker" "slow" "I", Cond.methodLink RX8 194 yX0_oddsAt, Cond.instanceMethod yX0_oddsAt, Cond.selects RX0 yX0_oddsAt yX0_oddsAt, Cond.code yX0_oddsAt cX0_oddsAt 6 (some .int), Cond.fieldLink RX0 53 "ChairTooFew$Party" "walkers" "[LChairTooFew$Walker;", Cond.fieldLink RX0 57 "ChairTooFew$Walker" "slow" "I", Cond.fieldLink RX0 65 "ChairTooFew$Party" "seating" "LChairTooFew$Seating;", Cond.methodLink RX0 49 yX2_knowsIn, Cond.methodLink RX0 62 yX0_seatBehindTenth, Cond.instanceMethod yX0_seatBehindTenth, Cond.selects RX0 yX0_seatBehindTenth yX0_seatBehindTenth, Cond.code yX0_seatBehindTenth cX0_seatBehindTenth 1 none, Cond.methodLink RX0 146 yX2_walkAll, Cond.methodLink RX0 152 yX5_seatAll]
def wsL_law_r35 : List Cond := [Cond.methodLink RX0 69 yX5_isSeated, Cond.methodLink RL 83 yX9_odds, Cond.instanceMethod yX9_odds, Cond.selects RX9 yX9_odds yX9_odds, Cond.code yX9_odds cX9_odds 4 (some .int), Cond.methodLink RX9 251 yX9_notOdds, Cond.instanceMethod yX9_notOdds, Cond.selects RX9 yX9_notOdds yX9_notOdds, Cond.code yX9_notOdds cX9_notOdds 3 (some .int), Cond.methodLink RX9 254 yX9_oddsOf, Cond.instanceMethod yX9_oddsOf, Cond.selects RX9 yX9_oddsOf yX9_oddsOf, Cond.code yX9_oddsOf cX9_oddsOf 3 (some .int), Cond.methodLink RX9 248 yX9_findOdds, Cond.instanceMethod yX9_findOdds, Cond.selects RX9 yX9_findOdds yX9_findOdds, Cond.code yX9_findOdds cX9_findOdds 6 none, Cond.fieldLink RX9 242 "ChairTooFewModel" "together" "I", Cond.fieldLink RX9 245 "ChairTooFewModel" "held" "I", Cond.methodLink RL 84 yX8_fair, Cond.instanceMethod yX8_fair, Cond.selects RX8 yX8_fair yX8_fair, Cond.code yX8_fair cX8_fair 3 (some .int), Cond.methodLink RX8 197 yX0_unfairness]
def wsL_law_r36 : List Cond := [Cond.instanceMethod yX0_unfairness, Cond.selects RX0 yX0_unfairness yX0_unfairness, Cond.code yX0_unfairness cX0_unfairness 5 (some .int), Cond.methodLink RX0 78 Lib.Math.max.name, Cond.static Lib.Math.max.name, Cond.initialized "java/lang/Math", Cond.code Lib.Math.max.name Lib.Math.max.code 2 (some .int), Cond.methodLink RX0 84 Lib.Math.min.name, Cond.static Lib.Math.min.name, Cond.code Lib.Math.min.name Lib.Math.min.code 2 (some .int), Cond.methodLink RX0 74 yX0_countSeatedTimes, Cond.instanceMethod yX0_countSeatedTimes, Cond.selects RX0 yX0_countSeatedTimes yX0_countSeatedTimes, Cond.code yX0_countSeatedTimes cX0_countSeatedTimes 4 none, Cond.methodLink RL 87 yX9_fair, Cond.instanceMethod yX9_fair, Cond.selects RX9 yX9_fair yX9_fair, Cond.code yX9_fair cX9_fair 6 (some .int), Cond.methodLink RL 88 yX8_bestSlow, Cond.instanceMethod yX8_bestSlow, Cond.selects RX8 yX8_bestSlow yX8_bestSlow, Cond.code yX8_bestSlow cX8_bestSlow 4 (some .int), Cond.methodLink RX8 200 yX0_slowOfGreatestOdds, Cond.instanceMethod yX0_slowOfGreatestOdds]
def wsL_law_r37 : List Cond := [Cond.selects RX0 yX0_slowOfGreatestOdds yX0_slowOfGreatestOdds, Cond.code yX0_slowOfGreatestOdds cX0_slowOfGreatestOdds 7 (some .int), Cond.methodLink RX0 87 yX0_oddsAt, Cond.methodLink RL 91 yX9_bestSlow, Cond.instanceMethod yX9_bestSlow, Cond.selects RX9 yX9_bestSlow yX9_bestSlow, Cond.code yX9_bestSlow cX9_bestSlow 8 (some .int), Cond.methodLink RX9 257 yX9_oddsBy, Cond.instanceMethod yX9_oddsBy, Cond.selects RX9 yX9_oddsBy yX9_oddsBy, Cond.code yX9_oddsBy cX9_oddsBy 6 (some .int), Cond.methodLink RL 92 yX8_cheat, Cond.instanceMethod yX8_cheat, Cond.selects RX8 yX8_cheat yX8_cheat, Cond.code yX8_cheat cX8_cheat 4 (some .int), Cond.methodLink RX8 203 yX0_gainOfCheating, Cond.instanceMethod yX0_gainOfCheating, Cond.selects RX0 yX0_gainOfCheating yX0_gainOfCheating, Cond.code yX0_gainOfCheating cX0_gainOfCheating 6 (some .int), Cond.methodLink RL 95 yX9_cheat, Cond.instanceMethod yX9_cheat, Cond.selects RX9 yX9_cheat yX9_cheat, Cond.code yX9_cheat cX9_cheat 7 (some .int), Cond.methodLink RL 96 yX8_lasts]
def wsL_law_r38 : List Cond := [Cond.instanceMethod yX8_lasts, Cond.selects RX8 yX8_lasts yX8_lasts, Cond.code yX8_lasts cX8_lasts 2 (some .int), Cond.methodLink RX8 206 yX0_partyAhead, Cond.instanceMethod yX0_partyAhead, Cond.selects RX0 yX0_partyAhead yX0_partyAhead, Cond.code yX0_partyAhead cX0_partyAhead 2 (some .int), Cond.methodLink RX0 91 yX0_playOut, Cond.instanceMethod yX0_playOut, Cond.selects RX0 yX0_playOut yX0_playOut, Cond.code yX0_playOut cX0_playOut 2 none, Cond.fieldLink RX0 155 "ChairTooFew$Party" "ended" "Z", Cond.methodLink RX0 159 yX2_passTenth, Cond.methodLink RX0 163 yX2_endRound, Cond.methodLink RX0 94 yX2_winner, Cond.instanceMethod yX2_winner, Cond.selects RX2 yX2_winner yX2_winner, Cond.code yX2_winner cX2_winner 3 (some .int), Cond.methodLink RL 99 yX9_lasts, Cond.instanceMethod yX9_lasts, Cond.selects RX9 yX9_lasts yX9_lasts, Cond.code yX9_lasts cX9_lasts 2 (some .int), Cond.fieldLink RX9 260 "ChairTooFewModel" "partyTenths" "I", Cond.fieldLink RX9 263 "ChairTooFewModel" "partyRounds" "I"]
def wsL_law_r39 : List Cond := [Cond.fieldLink RX9 266 "ChairTooFewModel" "winner" "I", Cond.methodLink RX9 272 yX9_partyBy, Cond.instanceMethod yX9_partyBy, Cond.selects RX9 yX9_partyBy yX9_partyBy, Cond.code yX9_partyBy cX9_partyBy 4 none, Cond.methodLink RX9 269 yX9_plays, Cond.instanceMethod yX9_plays, Cond.selects RX9 yX9_plays yX9_plays, Cond.code yX9_plays cX9_plays 2 none, Cond.methodLink RL 100 yX8_wins, Cond.instanceMethod yX8_wins, Cond.selects RX8 yX8_wins yX8_wins, Cond.code yX8_wins cX8_wins 5 (some .int), Cond.methodLink RX8 209 yX8_whyNotSeeds, Cond.instanceMethod yX8_whyNotSeeds, Cond.selects RX8 yX8_whyNotSeeds yX8_whyNotSeeds, Cond.code yX8_whyNotSeeds cX8_whyNotSeeds 3 (some .int), Cond.methodLink RX8 212 yX0_timesWinner, Cond.instanceMethod yX0_timesWinner, Cond.selects RX0 yX0_timesWinner yX0_timesWinner, Cond.code yX0_timesWinner cX0_timesWinner 6 (some .int), Cond.fieldLink RX0 97 "ChairTooFew$Party" "player" "LChairTooFew$Player;", Cond.fieldLink RX0 101 "ChairTooFew$Player" "z" "I", Cond.methodLink RL 103 yX9_wins]
def wsL_law_r40 : List Cond := [Cond.instanceMethod yX9_wins, Cond.selects RX9 yX9_wins yX9_wins, Cond.code yX9_wins cX9_wins 7 (some .int), Cond.methodLink RL 104 yX8_fairest, Cond.instanceMethod yX8_fairest, Cond.selects RX8 yX8_fairest yX8_fairest, Cond.code yX8_fairest cX8_fairest 4 (some .int), Cond.methodLink RX8 215 yX0_formOfMostWinners, Cond.instanceMethod yX0_formOfMostWinners, Cond.selects RX0 yX0_formOfMostWinners yX0_formOfMostWinners, Cond.code yX0_formOfMostWinners cX0_formOfMostWinners 10 (some .int), Cond.fieldLink RX0 106 "ChairTooFew$Party" "form" "I", Cond.methodLink RX0 109 yX0_bitOf, Cond.static yX0_bitOf, Cond.code yX0_bitOf cX0_bitOf 1 (some .int), Cond.methodLink RX0 113 yJ6_bitCount_0f7a4, Cond.static yJ6_bitCount_0f7a4, Cond.initialized RJ6, Cond.code yJ6_bitCount_0f7a4 cJ6_bitCount_0f7a4 1 (some .int), Cond.constant RJ6 265 (1431655765), Cond.constant RJ6 266 (858993459), Cond.constant RJ6 267 (252645135), Cond.methodLink RL 107 yX9_fairest, Cond.instanceMethod yX9_fairest]
def wsL_law_r41 : List Cond := [Cond.selects RX9 yX9_fairest yX9_fairest, Cond.code yX9_fairest cX9_fairest 12 (some .int), Cond.methodLink RL 108 yX8_shortest, Cond.instanceMethod yX8_shortest, Cond.selects RX8 yX8_shortest yX8_shortest, Cond.code yX8_shortest cX8_shortest 1 (some .int), Cond.methodLink RX8 218 yX0_kindOfFewestTenths, Cond.instanceMethod yX0_kindOfFewestTenths, Cond.selects RX0 yX0_kindOfFewestTenths yX0_kindOfFewestTenths, Cond.code yX0_kindOfFewestTenths cX0_kindOfFewestTenths 4 (some .int), Cond.constant RX0 118 (2147483647), Cond.fieldLink RX0 119 "ChairTooFew$Player" "kind" "I", Cond.methodLink RL 111 yX9_shortest, Cond.instanceMethod yX9_shortest, Cond.selects RX9 yX9_shortest yX9_shortest, Cond.code yX9_shortest cX9_shortest 4 (some .int), Cond.methodLink RL 112 yX8_row, Cond.instanceMethod yX8_row, Cond.selects RX8 yX8_row yX8_row, Cond.code yX8_row cX8_row 3 (some .int), Cond.methodLink RX8 221 yX1_isFull, Cond.instanceMethod yX1_isFull, Cond.selects RX1 yX1_isFull yX1_isFull, Cond.code yX1_isFull cX1_isFull 1 (some .boolean)]
def wsL_law_r42 : List Cond := [Cond.methodLink RX8 224 yX1_append, Cond.instanceMethod yX1_append, Cond.selects RX1 yX1_append yX1_append, Cond.code yX1_append cX1_append 2 (some .int), Cond.methodLink RX1 19 yX1_isFull, Cond.methodLink RL 115 yX9_row, Cond.instanceMethod yX9_row, Cond.selects RX9 yX9_row yX9_row, Cond.code yX9_row cX9_row 3 (some .int), Cond.fieldLink RX9 275 "ChairTooFewModel" "rowMany" "I", Cond.methodLink RL 116 yX8_could, Cond.instanceMethod yX8_could, Cond.selects RX8 yX8_could yX8_could, Cond.code yX8_could cX8_could 3 (some .int), Cond.methodLink RX8 226 yX8_couldAllBeBy, Cond.instanceMethod yX8_couldAllBeBy, Cond.selects RX8 yX8_couldAllBeBy yX8_couldAllBeBy, Cond.code yX8_couldAllBeBy cX8_couldAllBeBy 4 (some .boolean), Cond.fieldLink RX8 229 "ChairTooFew$Numbers" "length" "I", Cond.methodLink RX8 264 yX1_at, Cond.instanceMethod yX1_at, Cond.selects RX1 yX1_at yX1_at, Cond.code yX1_at cX1_at 2 (some .int), Cond.methodLink RX8 267 yX3_couldStop]
def wsL_law_r43 : List Cond := [Cond.instanceMethod yX3_couldStop, Cond.selects RX3 yX3_couldStop yX3_couldStop, Cond.code yX3_couldStop cX3_couldStop 3 (some .boolean), Cond.methodLink RL 119 yX9_could, Cond.instanceMethod yX9_could, Cond.selects RX9 yX9_could yX9_could, Cond.code yX9_could cX9_could 3 (some .int), Cond.methodLink RL 120 yX8_next, Cond.instanceMethod yX8_next, Cond.selects RX8 yX8_next yX8_next, Cond.code yX8_next cX8_next 4 (some .int), Cond.methodLink RX8 230 yX1_hundredthsUpTo, Cond.instanceMethod yX1_hundredthsUpTo, Cond.selects RX1 yX1_hundredthsUpTo yX1_hundredthsUpTo, Cond.code yX1_hundredthsUpTo cX1_hundredthsUpTo 4 (some .int), Cond.methodLink RL 123 yX9_next, Cond.instanceMethod yX9_next, Cond.selects RX9 yX9_next yX9_next, Cond.code yX9_next cX9_next 5 (some .int), Cond.methodLink RL 124 yX8_team, Cond.instanceMethod yX8_team, Cond.selects RX8 yX8_team yX8_team, Cond.code yX8_team cX8_team 6 (some .int), Cond.methodLink RX8 233 yX0_teamGain]
def wsL_law_r44 : List Cond := [Cond.instanceMethod yX0_teamGain, Cond.selects RX0 yX0_teamGain yX0_teamGain, Cond.code yX0_teamGain cX0_teamGain 10 (some .int), Cond.methodLink RX8 236 yX0_sitsWhenHeld, Cond.instanceMethod yX0_sitsWhenHeld, Cond.selects RX0 yX0_sitsWhenHeld yX0_sitsWhenHeld, Cond.code yX0_sitsWhenHeld cX0_sitsWhenHeld 9 (some .int), Cond.fieldLink RX0 122 "ChairTooFew$Party" "ring" "LChairTooFew$Ring;", Cond.fieldLink RX0 130 "ChairTooFew$Walker" "place" "I", Cond.fieldLink RX0 138 "ChairTooFew$Walker" "reach" "I", Cond.methodLink RX0 126 yX5_placeOf, Cond.methodLink RX0 133 yX4_far, Cond.methodLink RL 128 yX9_team, Cond.instanceMethod yX9_team, Cond.selects RX9 yX9_team yX9_team, Cond.code yX9_team cX9_team 6 (some .int), Cond.methodLink RL 129 yX8_film, Cond.instanceMethod yX8_film, Cond.selects RX8 yX8_film yX8_film, Cond.code yX8_film cX8_film 2 (some .int), Cond.methodLink RL 132 yX9_film, Cond.instanceMethod yX9_film, Cond.selects RX9 yX9_film yX9_film, Cond.code yX9_film cX9_film 2 (some .int)]
def wsL_law_r45 : List Cond := [Cond.fieldLink RX9 278 "ChairTooFewModel" "filmMany" "I", Cond.methodLink RL 133 yX8_judge, Cond.instanceMethod yX8_judge, Cond.selects RX8 yX8_judge yX8_judge, Cond.code yX8_judge cX8_judge 3 (some .int), Cond.methodLink RX8 239 yX0_firstWrong, Cond.instanceMethod yX0_firstWrong, Cond.selects RX0 yX0_firstWrong yX0_firstWrong, Cond.code yX0_firstWrong cX0_firstWrong 4 (some .int), Cond.fieldLink RX0 141 "ChairTooFew$Numbers" "length" "I", Cond.methodLink RX0 149 yX1_at, Cond.methodLink RL 136 yX9_judge, Cond.instanceMethod yX9_judge, Cond.selects RX9 yX9_judge yX9_judge, Cond.code yX9_judge cX9_judge 5 (some .int), Cond.methodLink RL 137 yX8_image, Cond.instanceMethod yX8_image, Cond.selects RX8 yX8_image yX8_image, Cond.code yX8_image cX8_image 1 (some .int), Cond.fieldLink RX8 246 "ChairTooFew$Party" "walkerCount" "I", Cond.methodLink RX8 243 yX2_become, Cond.methodLink RL 140 yX9_image, Cond.instanceMethod yX9_image, Cond.selects RX9 yX9_image yX9_image]
def wsL_law_r46 : List Cond := [Cond.code yX9_image cX9_image 1 (some .int), Cond.fieldLink RX9 281 "ChairTooFewModel" "hasImage" "Z", Cond.methodLink RL 141 yX8_restore, Cond.instanceMethod yX8_restore, Cond.selects RX8 yX8_restore yX8_restore, Cond.code yX8_restore cX8_restore 1 (some .int), Cond.methodLink RL 144 yX9_restore, Cond.instanceMethod yX9_restore, Cond.selects RX9 yX9_restore yX9_restore, Cond.code yX9_restore cX9_restore 1 (some .int), Cond.methodLink RL 145 yX8_count, Cond.instanceMethod yX8_count, Cond.selects RX8 yX8_count yX8_count, Cond.code yX8_count cX8_count 2 (some .int), Cond.fieldLink RX8 249 "ChairTooFew$Ring" "places" "I", Cond.fieldLink RX8 252 "ChairTooFew$Ring" "chairs" "I", Cond.fieldLink RX8 258 "ChairTooFew$Party" "tenths" "I", Cond.fieldLink RX8 261 "ChairTooFew$Party" "rounds" "I", Cond.methodLink RX8 255 yX2_countIn, Cond.methodLink RL 148 yX9_count, Cond.instanceMethod yX9_count, Cond.selects RX9 yX9_count yX9_count, Cond.code yX9_count cX9_count 2 (some .int)]
def wsL_law : List Cond := (wsL_law_r1 ++ (wsL_law_r2 ++ (wsL_law_r3 ++ (wsL_law_r4 ++ (wsL_law_r5 ++ (wsL_law_r6 ++ (wsL_law_r7 ++ (wsL_law_r8 ++ (wsL_law_r9 ++ (wsL_law_r10 ++ (wsL_law_r11 ++ (wsL_law_r12 ++ (wsL_law_r13 ++ (wsL_law_r14 ++ (wsL_law_r15 ++ (wsL_law_r16 ++ (wsL_law_r17 ++ (wsL_law_r18 ++ (wsL_law_r19 ++ (wsL_law_r20 ++ (wsL_law_r21 ++ (wsL_law_r22 ++ (wsL_law_r23 ++ (wsL_law_r24 ++ (wsL_law_r25 ++ (wsL_law_r26 ++ (wsL_law_r27 ++ (wsL_law_r28 ++ (wsL_law_r29 ++ (wsL_law_r30 ++ (wsL_law_r31 ++ (wsL_law_r32 ++ (wsL_law_r33 ++ (wsL_law_r34 ++ (wsL_law_r35 ++ (wsL_law_r36 ++ (wsL_law_r37 ++ (wsL_law_r38 ++ (wsL_law_r39 ++ (wsL_law_r40 ++ (wsL_law_r41 ++ (wsL_law_r42 ++ (wsL_law_r43 ++ (wsL_law_r44 ++ (wsL_law_r45 ++ wsL_law_r46))))))))))))))))))))))))))))))))))))))))))))) ++ wsX80 ++ wsX90 ++ wsX00 ++ wsX20 ++ wsX10 ++ wsX60 ++ wsX40 ++ wsX30 ++ wsX50 ++ wsX70 ++ ([] : List Cond)
set_option maxRecDepth 20000 in
theorem wsL_law_in : ∀ w ∈ wsL_law, w ∈ lw_tbl := fun w h => (goodIn_p wsL_law [86, 89, 94, 100, 106, 134, 159, 182, 302, 317, 959, 369, 373, 377, 1175, 1123, 1105, 381, 385, 389, 393, 397, 401, 404, 414, 418, 424, 428, 431, 434, 439, 442, 445, 448, 452, 462, 466, 469, 473, 477, 481, 488, 492, 497, 501, 505, 508, 512, 516, 520, 524, 528, 532, 536, 540, 545, 549, 553, 557, 561, 565, 570, 1180, 1184, 1188, 1192, 1120, 1196, 1200, 1204, 1208, 1212, 1109, 1101, 1113, 1127, 1131, 574, 1097, 580, 1117, 586, 590, 593, 596, 600, 1135, 1139, 604, 1143, 609, 1147, 614, 1151, 618, 622, 1155, 626, 1159, 632, 636, 640, 1163, 1167, 1171, 644, 648, 652, 656, 660, 664, 668, 672, 679, 683, 687, 691, 695, 699, 706, 710, 714, 718, 722, 728, 732, 736, 741, 745, 1216, 1220, 1224, 1228, 1232, 1236, 1243, 1247, 1251, 1255, 1259, 1263, 1267, 1271, 1275, 1279, 751, 1283, 755, 761, 1287, 1291, 766, 1295, 773, 777, 782, 1299, 1303, 1307, 1311, 789, 793, 800, 803, 797, 1315, 807, 811, 1319, 1323, 816, 820, 1327, 824, 828, 832, 838, 1331, 1335, 1339, 842, 846, 850, 1343, 854, 858, 861, 864, 1347, 871, 875, 1351, 880, 884, 888, 1355, 893, 897, 901, 905, 1359, 909, 913, 1363, 917, 921, 925, 1367, 931, 1371, 935, 939, 1375, 944, 1379, 949, 1383, 953, 1387] (by decide +kernel) (by decide +kernel) w h).1
theorem inlX0 : ∀ w ∈ wsX00, w ∈ wsL_law := fun _ h => List.mem_append_left _ (List.mem_append_left _ (List.mem_append_left _ (List.mem_append_left _ (List.mem_append_left _ (List.mem_append_left _ (List.mem_append_left _ (List.mem_append_left _ (List.mem_append_right _ h))))))))
theorem inX0 : ∀ w ∈ wsX00, w ∈ lw_tbl := fun w h => wsL_law_in w (inlX0 w h)
theorem inlX1 : ∀ w ∈ wsX10, w ∈ wsL_law := fun _ h => List.mem_append_left _ (List.mem_append_left _ (List.mem_append_left _ (List.mem_append_left _ (List.mem_append_left _ (List.mem_append_left _ (List.mem_append_right _ h))))))
theorem inX1 : ∀ w ∈ wsX10, w ∈ lw_tbl := fun w h => wsL_law_in w (inlX1 w h)
theorem inlX2 : ∀ w ∈ wsX20, w ∈ wsL_law := fun _ h => List.mem_append_left _ (List.mem_append_left _ (List.mem_append_left _ (List.mem_append_left _ (List.mem_append_left _ (List.mem_append_left _ (List.mem_append_left _ (List.mem_append_right _ h)))))))
theorem inX2 : ∀ w ∈ wsX20, w ∈ lw_tbl := fun w h => wsL_law_in w (inlX2 w h)
theorem inlX3 : ∀ w ∈ wsX30, w ∈ wsL_law := fun _ h => List.mem_append_left _ (List.mem_append_left _ (List.mem_append_left _ (List.mem_append_right _ h)))
theorem inX3 : ∀ w ∈ wsX30, w ∈ lw_tbl := fun w h => wsL_law_in w (inlX3 w h)
theorem inlX4 : ∀ w ∈ wsX40, w ∈ wsL_law := fun _ h => List.mem_append_left _ (List.mem_append_left _ (List.mem_append_left _ (List.mem_append_left _ (List.mem_append_right _ h))))
theorem inX4 : ∀ w ∈ wsX40, w ∈ lw_tbl := fun w h => wsL_law_in w (inlX4 w h)
theorem inlX5 : ∀ w ∈ wsX50, w ∈ wsL_law := fun _ h => List.mem_append_left _ (List.mem_append_left _ (List.mem_append_right _ h))
theorem inX5 : ∀ w ∈ wsX50, w ∈ lw_tbl := fun w h => wsL_law_in w (inlX5 w h)
theorem inlX6 : ∀ w ∈ wsX60, w ∈ wsL_law := fun _ h => List.mem_append_left _ (List.mem_append_left _ (List.mem_append_left _ (List.mem_append_left _ (List.mem_append_left _ (List.mem_append_right _ h)))))
theorem inX6 : ∀ w ∈ wsX60, w ∈ lw_tbl := fun w h => wsL_law_in w (inlX6 w h)
theorem inlX7 : ∀ w ∈ wsX70, w ∈ wsL_law := fun _ h => List.mem_append_left _ (List.mem_append_right _ h)
theorem inX7 : ∀ w ∈ wsX70, w ∈ lw_tbl := fun w h => wsL_law_in w (inlX7 w h)
theorem inlX8 : ∀ w ∈ wsX80, w ∈ wsL_law := fun _ h => List.mem_append_left _ (List.mem_append_left _ (List.mem_append_left _ (List.mem_append_left _ (List.mem_append_left _ (List.mem_append_left _ (List.mem_append_left _ (List.mem_append_left _ (List.mem_append_left _ (List.mem_append_left _ (List.mem_append_right _ h))))))))))
theorem inX8 : ∀ w ∈ wsX80, w ∈ lw_tbl := fun w h => wsL_law_in w (inlX8 w h)
theorem inlX9 : ∀ w ∈ wsX90, w ∈ wsL_law := fun _ h => List.mem_append_left _ (List.mem_append_left _ (List.mem_append_left _ (List.mem_append_left _ (List.mem_append_left _ (List.mem_append_left _ (List.mem_append_left _ (List.mem_append_left _ (List.mem_append_left _ (List.mem_append_right _ h)))))))))
theorem inX9 : ∀ w ∈ wsX90, w ∈ lw_tbl := fun w h => wsL_law_in w (inlX9 w h)
theorem inJ6 : ∀ w ∈ wsJ60, w ∈ lw_tbl := by decide +kernel
theorem inJ9 : ∀ w ∈ wsJ90, w ∈ lw_tbl := by decide +kernel
theorem inJ0 : ∀ w ∈ wsJ00, w ∈ lw_tbl := by decide +kernel
theorem inJ1 : ∀ w ∈ wsJ10, w ∈ lw_tbl := by decide +kernel
theorem inJ2 : ∀ w ∈ wsJ20, w ∈ lw_tbl := by decide +kernel
theorem inJ10 : ∀ w ∈ wsJ100, w ∈ lw_tbl := by decide +kernel
theorem inJ3 : ∀ w ∈ wsJ30, w ∈ lw_tbl := by decide +kernel
abbrev vwCl : List vw_C := [(RX0, TX0, 5), (RX1, TX1, 2), (RX2, TX2, 10), (RX3, TX3, 3), (RX4, TX4, 4), (RX5, TX5, 5), (RX6, TX6, 6), (RX7, TX7, 9), (RX8, TX8, 8), (RX9, TX9, 44)]
