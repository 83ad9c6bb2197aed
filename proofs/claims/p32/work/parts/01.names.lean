-- ===== PART A: goes FIRST, ahead of the names: the tables' words, and 'selects' of the private methods out of them =====
/-- a private method of a class that the tables say can be made, by its rows of tables_1 -/
def lw_okq (q : MethodName × Nat) : Prop := (q.1.cls ≠ "java/lang/invoke/MethodHandle" ∧ q.1.cls ≠ "java/lang/invoke/VarHandle") ∧ Cond.instantiable q.1.cls q.2 ∈ tables_1 ∧ Cond.privateMethod q.1 ∈ tables_1 ∧ Cond.instanceMethod q.1 ∈ tables_1
theorem lw_p0 : lw_okq (⟨"ChairTooFew", "refuse", "(I)I"⟩, 8) := ⟨⟨by decide +kernel, by decide +kernel⟩, List.mem_of_getElem? (i := 19) (by decide +kernel), List.mem_of_getElem? (i := 307) (by decide +kernel), List.mem_of_getElem? (i := 308) (by decide +kernel)⟩
theorem lw_p1 : lw_okq (⟨"ChairTooFew$Text", "begin", "()V"⟩, 6) := ⟨⟨by decide +kernel, by decide +kernel⟩, List.mem_of_getElem? (i := 250) (by decide +kernel), List.mem_of_getElem? (i := 327) (by decide +kernel), List.mem_of_getElem? (i := 328) (by decide +kernel)⟩
theorem lw_p2 : lw_okq (⟨"ChairTooFew$Text", "readStatement", "()Z"⟩, 6) := ⟨⟨by decide +kernel, by decide +kernel⟩, List.mem_of_getElem? (i := 250) (by decide +kernel), List.mem_of_getElem? (i := 331) (by decide +kernel), List.mem_of_getElem? (i := 332) (by decide +kernel)⟩
theorem lw_p3 : lw_okq (⟨"ChairTooFew$Text", "signAhead", "()I"⟩, 6) := ⟨⟨by decide +kernel, by decide +kernel⟩, List.mem_of_getElem? (i := 250) (by decide +kernel), List.mem_of_getElem? (i := 335) (by decide +kernel), List.mem_of_getElem? (i := 336) (by decide +kernel)⟩
theorem lw_p4 : lw_okq (⟨"ChairTooFew$Text", "readPart", "(C)Z"⟩, 6) := ⟨⟨by decide +kernel, by decide +kernel⟩, List.mem_of_getElem? (i := 250) (by decide +kernel), List.mem_of_getElem? (i := 396) (by decide +kernel), List.mem_of_getElem? (i := 397) (by decide +kernel)⟩
theorem lw_p5 : lw_okq (⟨"ChairTooFew$Text", "readDigits", "(I)Z"⟩, 6) := ⟨⟨by decide +kernel, by decide +kernel⟩, List.mem_of_getElem? (i := 250) (by decide +kernel), List.mem_of_getElem? (i := 400) (by decide +kernel), List.mem_of_getElem? (i := 401) (by decide +kernel)⟩
theorem lw_p6 : lw_okq (⟨"ChairTooFew$Text", "comesTrue", "(ILChairTooFew$Party;)Z"⟩, 6) := ⟨⟨by decide +kernel, by decide +kernel⟩, List.mem_of_getElem? (i := 250) (by decide +kernel), List.mem_of_getElem? (i := 435) (by decide +kernel), List.mem_of_getElem? (i := 436) (by decide +kernel)⟩
theorem lw_p7 : lw_okq (⟨"ChairTooFew$Text", "resize", "(LChairTooFew$Party;)Z"⟩, 6) := ⟨⟨by decide +kernel, by decide +kernel⟩, List.mem_of_getElem? (i := 250) (by decide +kernel), List.mem_of_getElem? (i := 439) (by decide +kernel), List.mem_of_getElem? (i := 440) (by decide +kernel)⟩
theorem lw_p8 : lw_okq (⟨"ChairTooFew$Text", "seatMore", "(LChairTooFew$Party;)Z"⟩, 6) := ⟨⟨by decide +kernel, by decide +kernel⟩, List.mem_of_getElem? (i := 250) (by decide +kernel), List.mem_of_getElem? (i := 446) (by decide +kernel), List.mem_of_getElem? (i := 447) (by decide +kernel)⟩
theorem lw_p9 : lw_okq (⟨"ChairTooFew$Text", "walkerMore", "(LChairTooFew$Party;)Z"⟩, 6) := ⟨⟨by decide +kernel, by decide +kernel⟩, List.mem_of_getElem? (i := 250) (by decide +kernel), List.mem_of_getElem? (i := 470) (by decide +kernel), List.mem_of_getElem? (i := 471) (by decide +kernel)⟩
theorem lw_p10 : lw_okq (⟨"ChairTooFew$Party", "mark", "(IZ)V"⟩, 10) := ⟨⟨by decide +kernel, by decide +kernel⟩, List.mem_of_getElem? (i := 33) (by decide +kernel), List.mem_of_getElem? (i := 491) (by decide +kernel), List.mem_of_getElem? (i := 492) (by decide +kernel)⟩
theorem lw_p11 : lw_okq (⟨"ChairTooFew$Text", "newPlayer", "(LChairTooFew$Party;)Z"⟩, 6) := ⟨⟨by decide +kernel, by decide +kernel⟩, List.mem_of_getElem? (i := 250) (by decide +kernel), List.mem_of_getElem? (i := 495) (by decide +kernel), List.mem_of_getElem? (i := 496) (by decide +kernel)⟩
theorem lw_p12 : lw_okq (⟨"ChairTooFew$Text", "newForm", "(LChairTooFew$Party;)Z"⟩, 6) := ⟨⟨by decide +kernel, by decide +kernel⟩, List.mem_of_getElem? (i := 250) (by decide +kernel), List.mem_of_getElem? (i := 504) (by decide +kernel), List.mem_of_getElem? (i := 505) (by decide +kernel)⟩
theorem lw_p13 : lw_okq (⟨"ChairTooFew$Party", "walk", "(LChairTooFew$Walker;)V"⟩, 10) := ⟨⟨by decide +kernel, by decide +kernel⟩, List.mem_of_getElem? (i := 33) (by decide +kernel), List.mem_of_getElem? (i := 602) (by decide +kernel), List.mem_of_getElem? (i := 603) (by decide +kernel)⟩
theorem lw_p14 : lw_okq (⟨"ChairTooFew$Party", "isLikedAtChair", "()Z"⟩, 10) := ⟨⟨by decide +kernel, by decide +kernel⟩, List.mem_of_getElem? (i := 33) (by decide +kernel), List.mem_of_getElem? (i := 613) (by decide +kernel), List.mem_of_getElem? (i := 614) (by decide +kernel)⟩
theorem lw_p15 : lw_okq (⟨"ChairTooFew$Seating", "measure", "(LChairTooFew$Party;)V"⟩, 5) := ⟨⟨by decide +kernel, by decide +kernel⟩, List.mem_of_getElem? (i := 92) (by decide +kernel), List.mem_of_getElem? (i := 629) (by decide +kernel), List.mem_of_getElem? (i := 630) (by decide +kernel)⟩
def lw_privs_1 : List (MethodName × Nat) := [(⟨"ChairTooFew", "refuse", "(I)I"⟩, 8), (⟨"ChairTooFew$Text", "begin", "()V"⟩, 6), (⟨"ChairTooFew$Text", "readStatement", "()Z"⟩, 6), (⟨"ChairTooFew$Text", "signAhead", "()I"⟩, 6), (⟨"ChairTooFew$Text", "readPart", "(C)Z"⟩, 6), (⟨"ChairTooFew$Text", "readDigits", "(I)Z"⟩, 6), (⟨"ChairTooFew$Text", "comesTrue", "(ILChairTooFew$Party;)Z"⟩, 6), (⟨"ChairTooFew$Text", "resize", "(LChairTooFew$Party;)Z"⟩, 6), (⟨"ChairTooFew$Text", "seatMore", "(LChairTooFew$Party;)Z"⟩, 6), (⟨"ChairTooFew$Text", "walkerMore", "(LChairTooFew$Party;)Z"⟩, 6), (⟨"ChairTooFew$Party", "mark", "(IZ)V"⟩, 10), (⟨"ChairTooFew$Text", "newPlayer", "(LChairTooFew$Party;)Z"⟩, 6), (⟨"ChairTooFew$Text", "newForm", "(LChairTooFew$Party;)Z"⟩, 6), (⟨"ChairTooFew$Party", "walk", "(LChairTooFew$Walker;)V"⟩, 10), (⟨"ChairTooFew$Party", "isLikedAtChair", "()Z"⟩, 10), (⟨"ChairTooFew$Seating", "measure", "(LChairTooFew$Party;)V"⟩, 5)]
theorem lw_r1 : ∀ q ∈ lw_privs_1, lw_okq q := List.forall_mem_cons.mpr ⟨lw_p0, List.forall_mem_cons.mpr ⟨lw_p1, List.forall_mem_cons.mpr ⟨lw_p2, List.forall_mem_cons.mpr ⟨lw_p3, List.forall_mem_cons.mpr ⟨lw_p4, List.forall_mem_cons.mpr ⟨lw_p5, List.forall_mem_cons.mpr ⟨lw_p6, List.forall_mem_cons.mpr ⟨lw_p7, List.forall_mem_cons.mpr ⟨lw_p8, List.forall_mem_cons.mpr ⟨lw_p9, List.forall_mem_cons.mpr ⟨lw_p10, List.forall_mem_cons.mpr ⟨lw_p11, List.forall_mem_cons.mpr ⟨lw_p12, List.forall_mem_cons.mpr ⟨lw_p13, List.forall_mem_cons.mpr ⟨lw_p14, List.forall_mem_cons.mpr ⟨lw_p15, fun _ h => absurd h List.not_mem_nil⟩⟩⟩⟩⟩⟩⟩⟩⟩⟩⟩⟩⟩⟩⟩⟩
theorem lw_p16 : lw_okq (⟨"ChairTooFew$Seating", "seatLeastHaste", "()Z"⟩, 5) := ⟨⟨by decide +kernel, by decide +kernel⟩, List.mem_of_getElem? (i := 92) (by decide +kernel), List.mem_of_getElem? (i := 640) (by decide +kernel), List.mem_of_getElem? (i := 641) (by decide +kernel)⟩
theorem lw_p17 : lw_okq (⟨"ChairTooFew$Seating", "giveWay", "(I)V"⟩, 5) := ⟨⟨by decide +kernel, by decide +kernel⟩, List.mem_of_getElem? (i := 92) (by decide +kernel), List.mem_of_getElem? (i := 644) (by decide +kernel), List.mem_of_getElem? (i := 645) (by decide +kernel)⟩
theorem lw_p18 : lw_okq (⟨"ChairTooFew$Ring", "mostCrowdedChair", "()I"⟩, 4) := ⟨⟨by decide +kernel, by decide +kernel⟩, List.mem_of_getElem? (i := 39) (by decide +kernel), List.mem_of_getElem? (i := 670) (by decide +kernel), List.mem_of_getElem? (i := 671) (by decide +kernel)⟩
theorem lw_p19 : lw_okq (⟨"ChairTooFew$Ring", "wayOn", "(II)I"⟩, 4) := ⟨⟨by decide +kernel, by decide +kernel⟩, List.mem_of_getElem? (i := 39) (by decide +kernel), List.mem_of_getElem? (i := 675) (by decide +kernel), List.mem_of_getElem? (i := 676) (by decide +kernel)⟩
theorem lw_p20 : lw_okq (⟨"ChairTooFew$Mind", "seatBehindTenth", "()V"⟩, 5) := ⟨⟨by decide +kernel, by decide +kernel⟩, List.mem_of_getElem? (i := 27) (by decide +kernel), List.mem_of_getElem? (i := 716) (by decide +kernel), List.mem_of_getElem? (i := 717) (by decide +kernel)⟩
theorem lw_p21 : lw_okq (⟨"ChairTooFew$Mind", "countSeatedTimes", "(I)V"⟩, 5) := ⟨⟨by decide +kernel, by decide +kernel⟩, List.mem_of_getElem? (i := 27) (by decide +kernel), List.mem_of_getElem? (i := 731) (by decide +kernel), List.mem_of_getElem? (i := 732) (by decide +kernel)⟩
theorem lw_p22 : lw_okq (⟨"ChairTooFew$Mind", "playOut", "()V"⟩, 5) := ⟨⟨by decide +kernel, by decide +kernel⟩, List.mem_of_getElem? (i := 27) (by decide +kernel), List.mem_of_getElem? (i := 766) (by decide +kernel), List.mem_of_getElem? (i := 767) (by decide +kernel)⟩
theorem lw_p23 : lw_okq (⟨"ChairTooFew", "whyNotSeeds", "(I)I"⟩, 8) := ⟨⟨by decide +kernel, by decide +kernel⟩, List.mem_of_getElem? (i := 19) (by decide +kernel), List.mem_of_getElem? (i := 780) (by decide +kernel), List.mem_of_getElem? (i := 781) (by decide +kernel)⟩
theorem lw_p24 : lw_okq (⟨"ChairTooFew", "couldAllBeBy", "(I)Z"⟩, 8) := ⟨⟨by decide +kernel, by decide +kernel⟩, List.mem_of_getElem? (i := 19) (by decide +kernel), List.mem_of_getElem? (i := 831) (by decide +kernel), List.mem_of_getElem? (i := 832) (by decide +kernel)⟩
theorem lw_p25 : lw_okq (⟨"ChairTooFewModel", "isPlace", "(I)Z"⟩, 44) := ⟨⟨by decide +kernel, by decide +kernel⟩, List.mem_of_getElem? (i := 892) (by decide +kernel), List.mem_of_getElem? (i := 1035) (by decide +kernel), List.mem_of_getElem? (i := 1036) (by decide +kernel)⟩
theorem lw_p26 : lw_okq (⟨"ChairTooFewModel", "no", "(I)I"⟩, 44) := ⟨⟨by decide +kernel, by decide +kernel⟩, List.mem_of_getElem? (i := 892) (by decide +kernel), List.mem_of_getElem? (i := 1039) (by decide +kernel), List.mem_of_getElem? (i := 1040) (by decide +kernel)⟩
theorem lw_p27 : lw_okq (⟨"ChairTooFewModel", "chairs", "()I"⟩, 44) := ⟨⟨by decide +kernel, by decide +kernel⟩, List.mem_of_getElem? (i := 892) (by decide +kernel), List.mem_of_getElem? (i := 1043) (by decide +kernel), List.mem_of_getElem? (i := 1044) (by decide +kernel)⟩
theorem lw_p28 : lw_okq (⟨"ChairTooFewModel", "comesChair", "(I)V"⟩, 44) := ⟨⟨by decide +kernel, by decide +kernel⟩, List.mem_of_getElem? (i := 892) (by decide +kernel), List.mem_of_getElem? (i := 1047) (by decide +kernel), List.mem_of_getElem? (i := 1048) (by decide +kernel)⟩
theorem lw_p29 : lw_okq (⟨"ChairTooFewModel", "isTaken", "(I)Z"⟩, 44) := ⟨⟨by decide +kernel, by decide +kernel⟩, List.mem_of_getElem? (i := 892) (by decide +kernel), List.mem_of_getElem? (i := 1061) (by decide +kernel), List.mem_of_getElem? (i := 1062) (by decide +kernel)⟩
theorem lw_p30 : lw_okq (⟨"ChairTooFewModel", "comesWalker", "(III)V"⟩, 44) := ⟨⟨by decide +kernel, by decide +kernel⟩, List.mem_of_getElem? (i := 892) (by decide +kernel), List.mem_of_getElem? (i := 1065) (by decide +kernel), List.mem_of_getElem? (i := 1066) (by decide +kernel)⟩
theorem lw_p31 : lw_okq (⟨"ChairTooFewModel", "isWalker", "(I)Z"⟩, 44) := ⟨⟨by decide +kernel, by decide +kernel⟩, List.mem_of_getElem? (i := 892) (by decide +kernel), List.mem_of_getElem? (i := 1073) (by decide +kernel), List.mem_of_getElem? (i := 1074) (by decide +kernel)⟩
def lw_privs_2 : List (MethodName × Nat) := [(⟨"ChairTooFew$Seating", "seatLeastHaste", "()Z"⟩, 5), (⟨"ChairTooFew$Seating", "giveWay", "(I)V"⟩, 5), (⟨"ChairTooFew$Ring", "mostCrowdedChair", "()I"⟩, 4), (⟨"ChairTooFew$Ring", "wayOn", "(II)I"⟩, 4), (⟨"ChairTooFew$Mind", "seatBehindTenth", "()V"⟩, 5), (⟨"ChairTooFew$Mind", "countSeatedTimes", "(I)V"⟩, 5), (⟨"ChairTooFew$Mind", "playOut", "()V"⟩, 5), (⟨"ChairTooFew", "whyNotSeeds", "(I)I"⟩, 8), (⟨"ChairTooFew", "couldAllBeBy", "(I)Z"⟩, 8), (⟨"ChairTooFewModel", "isPlace", "(I)Z"⟩, 44), (⟨"ChairTooFewModel", "no", "(I)I"⟩, 44), (⟨"ChairTooFewModel", "chairs", "()I"⟩, 44), (⟨"ChairTooFewModel", "comesChair", "(I)V"⟩, 44), (⟨"ChairTooFewModel", "isTaken", "(I)Z"⟩, 44), (⟨"ChairTooFewModel", "comesWalker", "(III)V"⟩, 44), (⟨"ChairTooFewModel", "isWalker", "(I)Z"⟩, 44)]
theorem lw_r2 : ∀ q ∈ lw_privs_2, lw_okq q := List.forall_mem_cons.mpr ⟨lw_p16, List.forall_mem_cons.mpr ⟨lw_p17, List.forall_mem_cons.mpr ⟨lw_p18, List.forall_mem_cons.mpr ⟨lw_p19, List.forall_mem_cons.mpr ⟨lw_p20, List.forall_mem_cons.mpr ⟨lw_p21, List.forall_mem_cons.mpr ⟨lw_p22, List.forall_mem_cons.mpr ⟨lw_p23, List.forall_mem_cons.mpr ⟨lw_p24, List.forall_mem_cons.mpr ⟨lw_p25, List.forall_mem_cons.mpr ⟨lw_p26, List.forall_mem_cons.mpr ⟨lw_p27, List.forall_mem_cons.mpr ⟨lw_p28, List.forall_mem_cons.mpr ⟨lw_p29, List.forall_mem_cons.mpr ⟨lw_p30, List.forall_mem_cons.mpr ⟨lw_p31, fun _ h => absurd h List.not_mem_nil⟩⟩⟩⟩⟩⟩⟩⟩⟩⟩⟩⟩⟩⟩⟩⟩
theorem lw_p32 : lw_okq (⟨"ChairTooFewModel", "hasteOf", "(II)I"⟩, 44) := ⟨⟨by decide +kernel, by decide +kernel⟩, List.mem_of_getElem? (i := 892) (by decide +kernel), List.mem_of_getElem? (i := 1101) (by decide +kernel), List.mem_of_getElem? (i := 1102) (by decide +kernel)⟩
theorem lw_p33 : lw_okq (⟨"ChairTooFewModel", "far", "(II)I"⟩, 44) := ⟨⟨by decide +kernel, by decide +kernel⟩, List.mem_of_getElem? (i := 892) (by decide +kernel), List.mem_of_getElem? (i := 1105) (by decide +kernel), List.mem_of_getElem? (i := 1106) (by decide +kernel)⟩
theorem lw_p34 : lw_okq (⟨"ChairTooFewModel", "statement", "()Z"⟩, 44) := ⟨⟨by decide +kernel, by decide +kernel⟩, List.mem_of_getElem? (i := 892) (by decide +kernel), List.mem_of_getElem? (i := 1118) (by decide +kernel), List.mem_of_getElem? (i := 1119) (by decide +kernel)⟩
theorem lw_p35 : lw_okq (⟨"ChairTooFewModel", "sign", "()I"⟩, 44) := ⟨⟨by decide +kernel, by decide +kernel⟩, List.mem_of_getElem? (i := 892) (by decide +kernel), List.mem_of_getElem? (i := 1122) (by decide +kernel), List.mem_of_getElem? (i := 1123) (by decide +kernel)⟩
theorem lw_p36 : lw_okq (⟨"ChairTooFewModel", "number", "(I)I"⟩, 44) := ⟨⟨by decide +kernel, by decide +kernel⟩, List.mem_of_getElem? (i := 892) (by decide +kernel), List.mem_of_getElem? (i := 1126) (by decide +kernel), List.mem_of_getElem? (i := 1127) (by decide +kernel)⟩
theorem lw_p37 : lw_okq (⟨"ChairTooFewModel", "takes", "(I)Z"⟩, 44) := ⟨⟨by decide +kernel, by decide +kernel⟩, List.mem_of_getElem? (i := 892) (by decide +kernel), List.mem_of_getElem? (i := 1130) (by decide +kernel), List.mem_of_getElem? (i := 1131) (by decide +kernel)⟩
theorem lw_p38 : lw_okq (⟨"ChairTooFewModel", "passesAll", "(IZ)V"⟩, 44) := ⟨⟨by decide +kernel, by decide +kernel⟩, List.mem_of_getElem? (i := 892) (by decide +kernel), List.mem_of_getElem? (i := 1134) (by decide +kernel), List.mem_of_getElem? (i := 1135) (by decide +kernel)⟩
theorem lw_p39 : lw_okq (⟨"ChairTooFewModel", "passes", "([I)V"⟩, 44) := ⟨⟨by decide +kernel, by decide +kernel⟩, List.mem_of_getElem? (i := 892) (by decide +kernel), List.mem_of_getElem? (i := 1138) (by decide +kernel), List.mem_of_getElem? (i := 1139) (by decide +kernel)⟩
theorem lw_p40 : lw_okq (⟨"ChairTooFewModel", "passOne", "(I)I"⟩, 44) := ⟨⟨by decide +kernel, by decide +kernel⟩, List.mem_of_getElem? (i := 892) (by decide +kernel), List.mem_of_getElem? (i := 1142) (by decide +kernel), List.mem_of_getElem? (i := 1143) (by decide +kernel)⟩
theorem lw_p41 : lw_okq (⟨"ChairTooFewModel", "comes", "(I)Z"⟩, 44) := ⟨⟨by decide +kernel, by decide +kernel⟩, List.mem_of_getElem? (i := 892) (by decide +kernel), List.mem_of_getElem? (i := 1146) (by decide +kernel), List.mem_of_getElem? (i := 1147) (by decide +kernel)⟩
theorem lw_p42 : lw_okq (⟨"ChairTooFewModel", "isOver", "()Z"⟩, 44) := ⟨⟨by decide +kernel, by decide +kernel⟩, List.mem_of_getElem? (i := 892) (by decide +kernel), List.mem_of_getElem? (i := 1154) (by decide +kernel), List.mem_of_getElem? (i := 1155) (by decide +kernel)⟩
theorem lw_p43 : lw_okq (⟨"ChairTooFewModel", "ins", "()I"⟩, 44) := ⟨⟨by decide +kernel, by decide +kernel⟩, List.mem_of_getElem? (i := 892) (by decide +kernel), List.mem_of_getElem? (i := 1158) (by decide +kernel), List.mem_of_getElem? (i := 1159) (by decide +kernel)⟩
theorem lw_p44 : lw_okq (⟨"ChairTooFewModel", "goesOn", "()Z"⟩, 44) := ⟨⟨by decide +kernel, by decide +kernel⟩, List.mem_of_getElem? (i := 892) (by decide +kernel), List.mem_of_getElem? (i := 1162) (by decide +kernel), List.mem_of_getElem? (i := 1163) (by decide +kernel)⟩
theorem lw_p45 : lw_okq (⟨"ChairTooFewModel", "walks", "()V"⟩, 44) := ⟨⟨by decide +kernel, by decide +kernel⟩, List.mem_of_getElem? (i := 892) (by decide +kernel), List.mem_of_getElem? (i := 1166) (by decide +kernel), List.mem_of_getElem? (i := 1167) (by decide +kernel)⟩
theorem lw_p46 : lw_okq (⟨"ChairTooFewModel", "doesStop", "()Z"⟩, 44) := ⟨⟨by decide +kernel, by decide +kernel⟩, List.mem_of_getElem? (i := 892) (by decide +kernel), List.mem_of_getElem? (i := 1170) (by decide +kernel), List.mem_of_getElem? (i := 1171) (by decide +kernel)⟩
theorem lw_p47 : lw_okq (⟨"ChairTooFewModel", "stops", "()I"⟩, 44) := ⟨⟨by decide +kernel, by decide +kernel⟩, List.mem_of_getElem? (i := 892) (by decide +kernel), List.mem_of_getElem? (i := 1177) (by decide +kernel), List.mem_of_getElem? (i := 1178) (by decide +kernel)⟩
def lw_privs_3 : List (MethodName × Nat) := [(⟨"ChairTooFewModel", "hasteOf", "(II)I"⟩, 44), (⟨"ChairTooFewModel", "far", "(II)I"⟩, 44), (⟨"ChairTooFewModel", "statement", "()Z"⟩, 44), (⟨"ChairTooFewModel", "sign", "()I"⟩, 44), (⟨"ChairTooFewModel", "number", "(I)I"⟩, 44), (⟨"ChairTooFewModel", "takes", "(I)Z"⟩, 44), (⟨"ChairTooFewModel", "passesAll", "(IZ)V"⟩, 44), (⟨"ChairTooFewModel", "passes", "([I)V"⟩, 44), (⟨"ChairTooFewModel", "passOne", "(I)I"⟩, 44), (⟨"ChairTooFewModel", "comes", "(I)Z"⟩, 44), (⟨"ChairTooFewModel", "isOver", "()Z"⟩, 44), (⟨"ChairTooFewModel", "ins", "()I"⟩, 44), (⟨"ChairTooFewModel", "goesOn", "()Z"⟩, 44), (⟨"ChairTooFewModel", "walks", "()V"⟩, 44), (⟨"ChairTooFewModel", "doesStop", "()Z"⟩, 44), (⟨"ChairTooFewModel", "stops", "()I"⟩, 44)]
theorem lw_r3 : ∀ q ∈ lw_privs_3, lw_okq q := List.forall_mem_cons.mpr ⟨lw_p32, List.forall_mem_cons.mpr ⟨lw_p33, List.forall_mem_cons.mpr ⟨lw_p34, List.forall_mem_cons.mpr ⟨lw_p35, List.forall_mem_cons.mpr ⟨lw_p36, List.forall_mem_cons.mpr ⟨lw_p37, List.forall_mem_cons.mpr ⟨lw_p38, List.forall_mem_cons.mpr ⟨lw_p39, List.forall_mem_cons.mpr ⟨lw_p40, List.forall_mem_cons.mpr ⟨lw_p41, List.forall_mem_cons.mpr ⟨lw_p42, List.forall_mem_cons.mpr ⟨lw_p43, List.forall_mem_cons.mpr ⟨lw_p44, List.forall_mem_cons.mpr ⟨lw_p45, List.forall_mem_cons.mpr ⟨lw_p46, List.forall_mem_cons.mpr ⟨lw_p47, fun _ h => absurd h List.not_mem_nil⟩⟩⟩⟩⟩⟩⟩⟩⟩⟩⟩⟩⟩⟩⟩⟩
theorem lw_p48 : lw_okq (⟨"ChairTooFewModel", "sit", "()V"⟩, 44) := ⟨⟨by decide +kernel, by decide +kernel⟩, List.mem_of_getElem? (i := 892) (by decide +kernel), List.mem_of_getElem? (i := 1181) (by decide +kernel), List.mem_of_getElem? (i := 1182) (by decide +kernel)⟩
theorem lw_p49 : lw_okq (⟨"ChairTooFewModel", "seatsOne", "()Z"⟩, 44) := ⟨⟨by decide +kernel, by decide +kernel⟩, List.mem_of_getElem? (i := 892) (by decide +kernel), List.mem_of_getElem? (i := 1185) (by decide +kernel), List.mem_of_getElem? (i := 1186) (by decide +kernel)⟩
theorem lw_p50 : lw_okq (⟨"ChairTooFewModel", "isSeat", "(I)Z"⟩, 44) := ⟨⟨by decide +kernel, by decide +kernel⟩, List.mem_of_getElem? (i := 892) (by decide +kernel), List.mem_of_getElem? (i := 1189) (by decide +kernel), List.mem_of_getElem? (i := 1190) (by decide +kernel)⟩
theorem lw_p51 : lw_okq (⟨"ChairTooFewModel", "mayReach", "(II)Z"⟩, 44) := ⟨⟨by decide +kernel, by decide +kernel⟩, List.mem_of_getElem? (i := 892) (by decide +kernel), List.mem_of_getElem? (i := 1193) (by decide +kernel), List.mem_of_getElem? (i := 1194) (by decide +kernel)⟩
theorem lw_p52 : lw_okq (⟨"ChairTooFewModel", "judges", "(I)V"⟩, 44) := ⟨⟨by decide +kernel, by decide +kernel⟩, List.mem_of_getElem? (i := 892) (by decide +kernel), List.mem_of_getElem? (i := 1197) (by decide +kernel), List.mem_of_getElem? (i := 1198) (by decide +kernel)⟩
theorem lw_p53 : lw_okq (⟨"ChairTooFewModel", "goer", "()I"⟩, 44) := ⟨⟨by decide +kernel, by decide +kernel⟩, List.mem_of_getElem? (i := 892) (by decide +kernel), List.mem_of_getElem? (i := 1201) (by decide +kernel), List.mem_of_getElem? (i := 1202) (by decide +kernel)⟩
theorem lw_p54 : lw_okq (⟨"ChairTooFewModel", "nearest", "(I)I"⟩, 44) := ⟨⟨by decide +kernel, by decide +kernel⟩, List.mem_of_getElem? (i := 892) (by decide +kernel), List.mem_of_getElem? (i := 1205) (by decide +kernel), List.mem_of_getElem? (i := 1206) (by decide +kernel)⟩
theorem lw_p55 : lw_okq (⟨"ChairTooFewModel", "leaver", "()I"⟩, 44) := ⟨⟨by decide +kernel, by decide +kernel⟩, List.mem_of_getElem? (i := 892) (by decide +kernel), List.mem_of_getElem? (i := 1209) (by decide +kernel), List.mem_of_getElem? (i := 1210) (by decide +kernel)⟩
theorem lw_p56 : lw_okq (⟨"ChairTooFewModel", "ways", "(I)I"⟩, 44) := ⟨⟨by decide +kernel, by decide +kernel⟩, List.mem_of_getElem? (i := 892) (by decide +kernel), List.mem_of_getElem? (i := 1213) (by decide +kernel), List.mem_of_getElem? (i := 1214) (by decide +kernel)⟩
theorem lw_p57 : lw_okq (⟨"ChairTooFewModel", "isThere", "(I)Z"⟩, 44) := ⟨⟨by decide +kernel, by decide +kernel⟩, List.mem_of_getElem? (i := 892) (by decide +kernel), List.mem_of_getElem? (i := 1225) (by decide +kernel), List.mem_of_getElem? (i := 1226) (by decide +kernel)⟩
theorem lw_p58 : lw_okq (⟨"ChairTooFewModel", "notOdds", "(II)I"⟩, 44) := ⟨⟨by decide +kernel, by decide +kernel⟩, List.mem_of_getElem? (i := 892) (by decide +kernel), List.mem_of_getElem? (i := 1237) (by decide +kernel), List.mem_of_getElem? (i := 1238) (by decide +kernel)⟩
theorem lw_p59 : lw_okq (⟨"ChairTooFewModel", "oddsOf", "(II)I"⟩, 44) := ⟨⟨by decide +kernel, by decide +kernel⟩, List.mem_of_getElem? (i := 892) (by decide +kernel), List.mem_of_getElem? (i := 1241) (by decide +kernel), List.mem_of_getElem? (i := 1242) (by decide +kernel)⟩
theorem lw_p60 : lw_okq (⟨"ChairTooFewModel", "findOdds", "(III)V"⟩, 44) := ⟨⟨by decide +kernel, by decide +kernel⟩, List.mem_of_getElem? (i := 892) (by decide +kernel), List.mem_of_getElem? (i := 1245) (by decide +kernel), List.mem_of_getElem? (i := 1246) (by decide +kernel)⟩
theorem lw_p61 : lw_okq (⟨"ChairTooFewModel", "oddsBy", "(III)I"⟩, 44) := ⟨⟨by decide +kernel, by decide +kernel⟩, List.mem_of_getElem? (i := 892) (by decide +kernel), List.mem_of_getElem? (i := 1257) (by decide +kernel), List.mem_of_getElem? (i := 1258) (by decide +kernel)⟩
theorem lw_p62 : lw_okq (⟨"ChairTooFewModel", "partyBy", "(III)V"⟩, 44) := ⟨⟨by decide +kernel, by decide +kernel⟩, List.mem_of_getElem? (i := 892) (by decide +kernel), List.mem_of_getElem? (i := 1269) (by decide +kernel), List.mem_of_getElem? (i := 1270) (by decide +kernel)⟩
theorem lw_p63 : lw_okq (⟨"ChairTooFewModel", "plays", "()V"⟩, 44) := ⟨⟨by decide +kernel, by decide +kernel⟩, List.mem_of_getElem? (i := 892) (by decide +kernel), List.mem_of_getElem? (i := 1273) (by decide +kernel), List.mem_of_getElem? (i := 1274) (by decide +kernel)⟩
def lw_privs_4 : List (MethodName × Nat) := [(⟨"ChairTooFewModel", "sit", "()V"⟩, 44), (⟨"ChairTooFewModel", "seatsOne", "()Z"⟩, 44), (⟨"ChairTooFewModel", "isSeat", "(I)Z"⟩, 44), (⟨"ChairTooFewModel", "mayReach", "(II)Z"⟩, 44), (⟨"ChairTooFewModel", "judges", "(I)V"⟩, 44), (⟨"ChairTooFewModel", "goer", "()I"⟩, 44), (⟨"ChairTooFewModel", "nearest", "(I)I"⟩, 44), (⟨"ChairTooFewModel", "leaver", "()I"⟩, 44), (⟨"ChairTooFewModel", "ways", "(I)I"⟩, 44), (⟨"ChairTooFewModel", "isThere", "(I)Z"⟩, 44), (⟨"ChairTooFewModel", "notOdds", "(II)I"⟩, 44), (⟨"ChairTooFewModel", "oddsOf", "(II)I"⟩, 44), (⟨"ChairTooFewModel", "findOdds", "(III)V"⟩, 44), (⟨"ChairTooFewModel", "oddsBy", "(III)I"⟩, 44), (⟨"ChairTooFewModel", "partyBy", "(III)V"⟩, 44), (⟨"ChairTooFewModel", "plays", "()V"⟩, 44)]
theorem lw_r4 : ∀ q ∈ lw_privs_4, lw_okq q := List.forall_mem_cons.mpr ⟨lw_p48, List.forall_mem_cons.mpr ⟨lw_p49, List.forall_mem_cons.mpr ⟨lw_p50, List.forall_mem_cons.mpr ⟨lw_p51, List.forall_mem_cons.mpr ⟨lw_p52, List.forall_mem_cons.mpr ⟨lw_p53, List.forall_mem_cons.mpr ⟨lw_p54, List.forall_mem_cons.mpr ⟨lw_p55, List.forall_mem_cons.mpr ⟨lw_p56, List.forall_mem_cons.mpr ⟨lw_p57, List.forall_mem_cons.mpr ⟨lw_p58, List.forall_mem_cons.mpr ⟨lw_p59, List.forall_mem_cons.mpr ⟨lw_p60, List.forall_mem_cons.mpr ⟨lw_p61, List.forall_mem_cons.mpr ⟨lw_p62, List.forall_mem_cons.mpr ⟨lw_p63, fun _ h => absurd h List.not_mem_nil⟩⟩⟩⟩⟩⟩⟩⟩⟩⟩⟩⟩⟩⟩⟩⟩
def lw_privs : List (MethodName × Nat) := lw_privs_1 ++ (lw_privs_2 ++ (lw_privs_3 ++ (lw_privs_4)))
def lw_tbl : List Cond := k2_sels lw_privs ++ tables_1
theorem lw_privs_ok : ∀ q ∈ lw_privs, lw_okq q := by
  show ∀ q ∈ lw_privs_1 ++ (lw_privs_2 ++ (lw_privs_3 ++ (lw_privs_4))), lw_okq q
  exact List.forall_mem_append.mpr ⟨lw_r1, List.forall_mem_append.mpr ⟨lw_r2, List.forall_mem_append.mpr ⟨lw_r3, lw_r4⟩⟩⟩
-- ===== end of PART A; then your names; then what follows =====
/-! ===== BEGIN words of one list among another's, by their places ===== -/
theorem goodIn_r {big : List Cond} (ws : List Cond) (ps : List Nat) (hp : ws = ps.filterMap (fun i => big[i]?)) (h : ws.all goodWord = true) : GoodIn big ws := by
  intro w hw
  have h1 := List.all_eq_true.mp h w hw
  rw [hp] at hw
  obtain ⟨i, -, hi⟩ := List.mem_filterMap.mp hw
  have hm : w ∈ big := by first | exact List.mem_of_getElem? hi | exact List.getElem?_mem hi
  exact ⟨hm, good_of_word h1⟩
theorem goodIn_app {big a b : List Cond} (ha : GoodIn big a) (hb : GoodIn big b) : GoodIn big (a ++ b) := fun w h => (List.mem_append.mp h).elim (ha w) (hb w)
theorem goodIn_ca {big a b : List Cond} {c : Cond} (ha : GoodIn big (c :: a)) (hb : GoodIn big b) : GoodIn big (c :: (a ++ b)) := fun w h => (List.mem_cons.mp h).elim (fun e => ha w (List.mem_cons.mpr (Or.inl e))) (fun h => (List.mem_append.mp h).elim (fun h => ha w (List.mem_cons.mpr (Or.inr h))) (hb w))
theorem goodIn_sub {big ws : List Cond} (hm : ∀ w ∈ ws, w ∈ big) (h : ws.all goodWord = true) : GoodIn big ws := fun w hw => ⟨hm w hw, good_of_word (List.all_eq_true.mp h w hw)⟩
/-! ===== END ===== -/

/-! ===== BEGIN printed: names, fields, word lists, decode rows ===== -/
def RX0 : String := "ChairTooFew$Mind"
def TX0 : u_T := fun k => match k with
  | 0 => ("ChairTooFew$Mind", "real", "LChairTooFew$Party;", true)
  | 1 => ("ChairTooFew$Mind", "thought", "LChairTooFew$Party;", true)
  | 2 => ("ChairTooFew$Mind", "times", "[I", true)
  | 3 => ("ChairTooFew$Mind", "tenthsAhead", "I", false)
  | _ => ("ChairTooFew$Mind", "roundsAhead", "I", false)
def tyX0 : Nat → FieldType := fun k => match k with
  | 0 => .object "ChairTooFew$Party"
  | 1 => .object "ChairTooFew$Party"
  | 2 => .array .int
  | 3 => .int
  | _ => .int
abbrev wsX00 : List Cond := u_ws RX0 TX0 5
theorem nmX0 : ∀ a, a < 5 → ∀ b, b < 5 → a ≠ b → (TX0 a).2.1 ≠ (TX0 b).2.1 := by decide +kernel
theorem tyX0_ok : ∀ k, k < 5 → parseFieldDescriptor (TX0 k).2.2.1 = some (tyX0 k) := by decide +kernel
abbrev cX0_init : ByteArray := prog_2_method_1_code
def yX0_init : MethodName := ⟨RX0, "<init>", "()V"⟩
abbrev cX0_readParty : ByteArray := prog_2_method_2_code
def yX0_readParty : MethodName := ⟨RX0, "readParty", "(LChairTooFew$Text;)I"⟩
abbrev cX0_oddsAt : ByteArray := prog_2_method_3_code
def yX0_oddsAt : MethodName := ⟨RX0, "oddsAt", "(III)I"⟩
abbrev cX0_unfairness : ByteArray := prog_2_method_4_code
def yX0_unfairness : MethodName := ⟨RX0, "unfairness", "(I)I"⟩
abbrev cX0_slowOfGreatestOdds : ByteArray := prog_2_method_5_code
def yX0_slowOfGreatestOdds : MethodName := ⟨RX0, "slowOfGreatestOdds", "(II)I"⟩
abbrev cX0_gainOfCheating : ByteArray := prog_2_method_6_code
def yX0_gainOfCheating : MethodName := ⟨RX0, "gainOfCheating", "(II)I"⟩
abbrev cX0_partyAhead : ByteArray := prog_2_method_7_code
def yX0_partyAhead : MethodName := ⟨RX0, "partyAhead", "(I)I"⟩
abbrev cX0_timesWinner : ByteArray := prog_2_method_8_code
def yX0_timesWinner : MethodName := ⟨RX0, "timesWinner", "(III)I"⟩
abbrev cX0_formOfMostWinners : ByteArray := prog_2_method_9_code
def yX0_formOfMostWinners : MethodName := ⟨RX0, "formOfMostWinners", "(II)I"⟩
abbrev cX0_kindOfFewestTenths : ByteArray := prog_2_method_10_code
def yX0_kindOfFewestTenths : MethodName := ⟨RX0, "kindOfFewestTenths", "()I"⟩
abbrev cX0_teamGain : ByteArray := prog_2_method_11_code
def yX0_teamGain : MethodName := ⟨RX0, "teamGain", "(III)I"⟩
abbrev cX0_sitsWhenHeld : ByteArray := prog_2_method_12_code
def yX0_sitsWhenHeld : MethodName := ⟨RX0, "sitsWhenHeld", "(III)I"⟩
abbrev cX0_firstWrong : ByteArray := prog_2_method_13_code
def yX0_firstWrong : MethodName := ⟨RX0, "firstWrong", "(ILChairTooFew$Numbers;)I"⟩
abbrev cX0_seatBehindTenth : ByteArray := prog_2_method_14_code
def yX0_seatBehindTenth : MethodName := ⟨RX0, "seatBehindTenth", "()V"⟩
abbrev cX0_countSeatedTimes : ByteArray := prog_2_method_15_code
def yX0_countSeatedTimes : MethodName := ⟨RX0, "countSeatedTimes", "(I)V"⟩
abbrev cX0_playOut : ByteArray := prog_2_method_16_code
def yX0_playOut : MethodName := ⟨RX0, "playOut", "()V"⟩
abbrev cX0_bitOf : ByteArray := prog_2_method_17_code
def yX0_bitOf : MethodName := ⟨RX0, "bitOf", "(I)I"⟩
def RX1 : String := "ChairTooFew$Numbers"
def TX1 : u_T := fun k => match k with
  | 0 => ("ChairTooFew$Numbers", "numbers", "[I", true)
  | _ => ("ChairTooFew$Numbers", "length", "I", false)
def tyX1 : Nat → FieldType := fun k => match k with
  | 0 => .array .int
  | _ => .int
abbrev wsX10 : List Cond := u_ws RX1 TX1 2
theorem nmX1 : ∀ a, a < 2 → ∀ b, b < 2 → a ≠ b → (TX1 a).2.1 ≠ (TX1 b).2.1 := by decide +kernel
theorem tyX1_ok : ∀ k, k < 2 → parseFieldDescriptor (TX1 k).2.2.1 = some (tyX1 k) := by decide +kernel
abbrev cX1_init : ByteArray := prog_3_method_1_code
def yX1_init : MethodName := ⟨RX1, "<init>", "(I)V"⟩
abbrev cX1_isFull : ByteArray := prog_3_method_2_code
def yX1_isFull : MethodName := ⟨RX1, "isFull", "()Z"⟩
abbrev cX1_append : ByteArray := prog_3_method_3_code
def yX1_append : MethodName := ⟨RX1, "append", "(I)I"⟩
abbrev cX1_at : ByteArray := prog_3_method_4_code
def yX1_at : MethodName := ⟨RX1, "at", "(I)I"⟩
abbrev cX1_hundredthsUpTo : ByteArray := prog_3_method_5_code
def yX1_hundredthsUpTo : MethodName := ⟨RX1, "hundredthsUpTo", "(I)I"⟩
def RX2 : String := "ChairTooFew$Party"
def TX2 : u_T := fun k => match k with
  | 0 => ("ChairTooFew$Party", "ring", "LChairTooFew$Ring;", true)
  | 1 => ("ChairTooFew$Party", "player", "LChairTooFew$Player;", true)
  | 2 => ("ChairTooFew$Party", "seating", "LChairTooFew$Seating;", true)
  | 3 => ("ChairTooFew$Party", "walkers", "[LChairTooFew$Walker;", true)
  | 4 => ("ChairTooFew$Party", "stoodOn", "[Z", true)
  | 5 => ("ChairTooFew$Party", "walkerCount", "I", false)
  | 6 => ("ChairTooFew$Party", "form", "I", false)
  | 7 => ("ChairTooFew$Party", "tenths", "I", false)
  | 8 => ("ChairTooFew$Party", "rounds", "I", false)
  | _ => ("ChairTooFew$Party", "ended", "Z", false)
def tyX2 : Nat → FieldType := fun k => match k with
  | 0 => .object "ChairTooFew$Ring"
  | 1 => .object "ChairTooFew$Player"
  | 2 => .object "ChairTooFew$Seating"
  | 3 => .array (.object "ChairTooFew$Walker")
  | 4 => .array .boolean
  | 5 => .int
  | 6 => .int
  | 7 => .int
  | 8 => .int
  | _ => .boolean
abbrev wsX20 : List Cond := u_ws RX2 TX2 10
theorem nmX2 : ∀ a, a < 10 → ∀ b, b < 10 → a ≠ b → (TX2 a).2.1 ≠ (TX2 b).2.1 := by decide +kernel
theorem tyX2_ok : ∀ k, k < 10 → parseFieldDescriptor (TX2 k).2.2.1 = some (tyX2 k) := by decide +kernel
abbrev cX2_init : ByteArray := prog_4_method_1_code
def yX2_init : MethodName := ⟨RX2, "<init>", "()V"⟩
abbrev cX2_become : ByteArray := prog_4_method_2_code
def yX2_become : MethodName := ⟨RX2, "become", "(LChairTooFew$Party;)V"⟩
abbrev cX2_knows : ByteArray := prog_4_method_3_code
def yX2_knows : MethodName := ⟨RX2, "knows", "(I)Z"⟩
abbrev cX2_knowsIn : ByteArray := prog_4_method_4_code
def yX2_knowsIn : MethodName := ⟨RX2, "knowsIn", "(I)Z"⟩
abbrev cX2_countIn : ByteArray := prog_4_method_5_code
def yX2_countIn : MethodName := ⟨RX2, "countIn", "()I"⟩
abbrev cX2_canGoOn : ByteArray := prog_4_method_6_code
def yX2_canGoOn : MethodName := ⟨RX2, "canGoOn", "()Z"⟩
abbrev cX2_isStoodOn : ByteArray := prog_4_method_7_code
def yX2_isStoodOn : MethodName := ⟨RX2, "isStoodOn", "(I)Z"⟩
abbrev cX2_mark : ByteArray := prog_4_method_8_code
def yX2_mark : MethodName := ⟨RX2, "mark", "(IZ)V"⟩
abbrev cX2_whyNoChair : ByteArray := prog_4_method_9_code
def yX2_whyNoChair : MethodName := ⟨RX2, "whyNoChair", "(I)I"⟩
abbrev cX2_addChair : ByteArray := prog_4_method_10_code
def yX2_addChair : MethodName := ⟨RX2, "addChair", "(I)I"⟩
abbrev cX2_whyNoWalker : ByteArray := prog_4_method_11_code
def yX2_whyNoWalker : MethodName := ⟨RX2, "whyNoWalker", "(III)I"⟩
abbrev cX2_addWalker : ByteArray := prog_4_method_12_code
def yX2_addWalker : MethodName := ⟨RX2, "addWalker", "(III)I"⟩
abbrev cX2_walkAll : ByteArray := prog_4_method_13_code
def yX2_walkAll : MethodName := ⟨RX2, "walkAll", "()V"⟩
abbrev cX2_walk : ByteArray := prog_4_method_14_code
def yX2_walk : MethodName := ⟨RX2, "walk", "(LChairTooFew$Walker;)V"⟩
abbrev cX2_passTenth : ByteArray := prog_4_method_15_code
def yX2_passTenth : MethodName := ⟨RX2, "passTenth", "()Z"⟩
abbrev cX2_isLikedAtChair : ByteArray := prog_4_method_16_code
def yX2_isLikedAtChair : MethodName := ⟨RX2, "isLikedAtChair", "()Z"⟩
abbrev cX2_endRound : ByteArray := prog_4_method_17_code
def yX2_endRound : MethodName := ⟨RX2, "endRound", "()I"⟩
abbrev cX2_losesChair : ByteArray := prog_4_method_18_code
def yX2_losesChair : MethodName := ⟨RX2, "losesChair", "(I)Z"⟩
abbrev cX2_whoGoes : ByteArray := prog_4_method_19_code
def yX2_whoGoes : MethodName := ⟨RX2, "whoGoes", "()I"⟩
abbrev cX2_winner : ByteArray := prog_4_method_20_code
def yX2_winner : MethodName := ⟨RX2, "winner", "()I"⟩
def RX3 : String := "ChairTooFew$Player"
def TX3 : u_T := fun k => match k with
  | 0 => ("ChairTooFew$Player", "kind", "I", false)
  | 1 => ("ChairTooFew$Player", "figure", "I", false)
  | _ => ("ChairTooFew$Player", "z", "I", false)
def tyX3 : Nat → FieldType := fun k => match k with
  | 0 => .int
  | 1 => .int
  | _ => .int
abbrev wsX30 : List Cond := u_ws RX3 TX3 3
theorem nmX3 : ∀ a, a < 3 → ∀ b, b < 3 → a ≠ b → (TX3 a).2.1 ≠ (TX3 b).2.1 := by decide +kernel
theorem tyX3_ok : ∀ k, k < 3 → parseFieldDescriptor (TX3 k).2.2.1 = some (tyX3 k) := by decide +kernel
abbrev cX3_init : ByteArray := prog_5_method_1_code
def yX3_init : MethodName := ⟨RX3, "<init>", "()V"⟩
abbrev cX3_become : ByteArray := prog_5_method_2_code
def yX3_become : MethodName := ⟨RX3, "become", "(LChairTooFew$Player;)V"⟩
abbrev cX3_whyNot : ByteArray := prog_5_method_3_code
def yX3_whyNot : MethodName := ⟨RX3, "whyNot", "(II)I"⟩
abbrev cX3_drawAgain : ByteArray := prog_5_method_4_code
def yX3_drawAgain : MethodName := ⟨RX3, "drawAgain", "()I"⟩
abbrev cX3_stopsIn : ByteArray := prog_5_method_5_code
def yX3_stopsIn : MethodName := ⟨RX3, "stopsIn", "(IIZ)Z"⟩
abbrev cX3_couldStop : ByteArray := prog_5_method_6_code
def yX3_couldStop : MethodName := ⟨RX3, "couldStop", "(II)Z"⟩
def RX4 : String := "ChairTooFew$Ring"
def TX4 : u_T := fun k => match k with
  | 0 => ("ChairTooFew$Ring", "places", "I", false)
  | 1 => ("ChairTooFew$Ring", "chairs", "I", false)
  | 2 => ("ChairTooFew$Ring", "chairPlaces", "[I", true)
  | _ => ("ChairTooFew$Ring", "taken", "[Z", true)
def tyX4 : Nat → FieldType := fun k => match k with
  | 0 => .int
  | 1 => .int
  | 2 => .array .int
  | _ => .array .boolean
abbrev wsX40 : List Cond := u_ws RX4 TX4 4
theorem nmX4 : ∀ a, a < 4 → ∀ b, b < 4 → a ≠ b → (TX4 a).2.1 ≠ (TX4 b).2.1 := by decide +kernel
theorem tyX4_ok : ∀ k, k < 4 → parseFieldDescriptor (TX4 k).2.2.1 = some (tyX4 k) := by decide +kernel
abbrev cX4_init : ByteArray := prog_6_method_1_code
def yX4_init : MethodName := ⟨RX4, "<init>", "()V"⟩
abbrev cX4_become : ByteArray := prog_6_method_2_code
def yX4_become : MethodName := ⟨RX4, "become", "(LChairTooFew$Ring;)V"⟩
abbrev cX4_isPlace : ByteArray := prog_6_method_3_code
def yX4_isPlace : MethodName := ⟨RX4, "isPlace", "(I)Z"⟩
abbrev cX4_hasChair : ByteArray := prog_6_method_4_code
def yX4_hasChair : MethodName := ⟨RX4, "hasChair", "(I)Z"⟩
abbrev cX4_placeOfChair : ByteArray := prog_6_method_5_code
def yX4_placeOfChair : MethodName := ⟨RX4, "placeOfChair", "(I)I"⟩
abbrev cX4_far : ByteArray := prog_6_method_6_code
def yX4_far : MethodName := ⟨RX4, "far", "(II)I"⟩
abbrev cX4_farFromChairs : ByteArray := prog_6_method_7_code
def yX4_farFromChairs : MethodName := ⟨RX4, "farFromChairs", "(I)I"⟩
abbrev cX4_putChair : ByteArray := prog_6_method_8_code
def yX4_putChair : MethodName := ⟨RX4, "putChair", "(I)V"⟩
abbrev cX4_takeChair : ByteArray := prog_6_method_9_code
def yX4_takeChair : MethodName := ⟨RX4, "takeChair", "(I)V"⟩
abbrev cX4_leavingPlace : ByteArray := prog_6_method_10_code
def yX4_leavingPlace : MethodName := ⟨RX4, "leavingPlace", "(I)I"⟩
abbrev cX4_mostCrowdedChair : ByteArray := prog_6_method_11_code
def yX4_mostCrowdedChair : MethodName := ⟨RX4, "mostCrowdedChair", "()I"⟩
abbrev cX4_wayOn : ByteArray := prog_6_method_12_code
def yX4_wayOn : MethodName := ⟨RX4, "wayOn", "(II)I"⟩
def RX5 : String := "ChairTooFew$Seating"
def TX5 : u_T := fun k => match k with
  | 0 => ("ChairTooFew$Seating", "seats", "[I", true)
  | 1 => ("ChairTooFew$Seating", "hastes", "[I", true)
  | 2 => ("ChairTooFew$Seating", "free", "[Z", true)
  | 3 => ("ChairTooFew$Seating", "walkers", "I", false)
  | _ => ("ChairTooFew$Seating", "chairs", "I", false)
def tyX5 : Nat → FieldType := fun k => match k with
  | 0 => .array .int
  | 1 => .array .int
  | 2 => .array .boolean
  | 3 => .int
  | _ => .int
abbrev wsX50 : List Cond := u_ws RX5 TX5 5
theorem nmX5 : ∀ a, a < 5 → ∀ b, b < 5 → a ≠ b → (TX5 a).2.1 ≠ (TX5 b).2.1 := by decide +kernel
theorem tyX5_ok : ∀ k, k < 5 → parseFieldDescriptor (TX5 k).2.2.1 = some (tyX5 k) := by decide +kernel
abbrev cX5_init : ByteArray := prog_7_method_1_code
def yX5_init : MethodName := ⟨RX5, "<init>", "()V"⟩
abbrev cX5_seatAll : ByteArray := prog_7_method_2_code
def yX5_seatAll : MethodName := ⟨RX5, "seatAll", "(LChairTooFew$Party;)V"⟩
abbrev cX5_isSeated : ByteArray := prog_7_method_3_code
def yX5_isSeated : MethodName := ⟨RX5, "isSeated", "(I)Z"⟩
abbrev cX5_placeOf : ByteArray := prog_7_method_4_code
def yX5_placeOf : MethodName := ⟨RX5, "placeOf", "(ILChairTooFew$Ring;)I"⟩
abbrev cX5_measure : ByteArray := prog_7_method_5_code
def yX5_measure : MethodName := ⟨RX5, "measure", "(LChairTooFew$Party;)V"⟩
abbrev cX5_seatLeastHaste : ByteArray := prog_7_method_6_code
def yX5_seatLeastHaste : MethodName := ⟨RX5, "seatLeastHaste", "()Z"⟩
abbrev cX5_giveWay : ByteArray := prog_7_method_7_code
def yX5_giveWay : MethodName := ⟨RX5, "giveWay", "(I)V"⟩
def RX6 : String := "ChairTooFew$Text"
def TX6 : u_T := fun k => match k with
  | 0 => ("ChairTooFew$Text", "bytes", "[B", true)
  | 1 => ("ChairTooFew$Text", "values", "[I", true)
  | 2 => ("ChairTooFew$Text", "at", "I", false)
  | 3 => ("ChairTooFew$Text", "used", "I", false)
  | 4 => ("ChairTooFew$Text", "length", "I", false)
  | _ => ("ChairTooFew$Text", "statements", "I", false)
def tyX6 : Nat → FieldType := fun k => match k with
  | 0 => .array .byte
  | 1 => .array .int
  | 2 => .int
  | 3 => .int
  | 4 => .int
  | _ => .int
abbrev wsX60 : List Cond := u_ws RX6 TX6 6
theorem nmX6 : ∀ a, a < 6 → ∀ b, b < 6 → a ≠ b → (TX6 a).2.1 ≠ (TX6 b).2.1 := by decide +kernel
theorem tyX6_ok : ∀ k, k < 6 → parseFieldDescriptor (TX6 k).2.2.1 = some (tyX6 k) := by decide +kernel
abbrev cX6_init : ByteArray := prog_8_method_1_code
def yX6_init : MethodName := ⟨RX6, "<init>", "()V"⟩
abbrev cX6_append : ByteArray := prog_8_method_2_code
def yX6_append : MethodName := ⟨RX6, "append", "(IJ)V"⟩
abbrev cX6_firstMisfit : ByteArray := prog_8_method_3_code
def yX6_firstMisfit : MethodName := ⟨RX6, "firstMisfit", "()I"⟩
abbrev cX6_firstImpossible : ByteArray := prog_8_method_4_code
def yX6_firstImpossible : MethodName := ⟨RX6, "firstImpossible", "(LChairTooFew$Party;)I"⟩
abbrev cX6_begin : ByteArray := prog_8_method_5_code
def yX6_begin : MethodName := ⟨RX6, "begin", "()V"⟩
abbrev cX6_readStatement : ByteArray := prog_8_method_6_code
def yX6_readStatement : MethodName := ⟨RX6, "readStatement", "()Z"⟩
abbrev cX6_shapeOf : ByteArray := prog_8_method_7_code
def yX6_shapeOf : MethodName := ⟨RX6, "shapeOf", "(I)Ljava/lang/String;"⟩
abbrev cX6_readPart : ByteArray := prog_8_method_8_code
def yX6_readPart : MethodName := ⟨RX6, "readPart", "(C)Z"⟩
abbrev cX6_readDigits : ByteArray := prog_8_method_9_code
def yX6_readDigits : MethodName := ⟨RX6, "readDigits", "(I)Z"⟩
abbrev cX6_signAhead : ByteArray := prog_8_method_10_code
def yX6_signAhead : MethodName := ⟨RX6, "signAhead", "()I"⟩
abbrev cX6_isDigit : ByteArray := prog_8_method_11_code
def yX6_isDigit : MethodName := ⟨RX6, "isDigit", "(I)Z"⟩
abbrev cX6_comesTrue : ByteArray := prog_8_method_12_code
def yX6_comesTrue : MethodName := ⟨RX6, "comesTrue", "(ILChairTooFew$Party;)Z"⟩
abbrev cX6_resize : ByteArray := prog_8_method_13_code
def yX6_resize : MethodName := ⟨RX6, "resize", "(LChairTooFew$Party;)Z"⟩
abbrev cX6_seatMore : ByteArray := prog_8_method_14_code
def yX6_seatMore : MethodName := ⟨RX6, "seatMore", "(LChairTooFew$Party;)Z"⟩
abbrev cX6_walkerMore : ByteArray := prog_8_method_15_code
def yX6_walkerMore : MethodName := ⟨RX6, "walkerMore", "(LChairTooFew$Party;)Z"⟩
abbrev cX6_newPlayer : ByteArray := prog_8_method_16_code
def yX6_newPlayer : MethodName := ⟨RX6, "newPlayer", "(LChairTooFew$Party;)Z"⟩
abbrev cX6_newForm : ByteArray := prog_8_method_17_code
def yX6_newForm : MethodName := ⟨RX6, "newForm", "(LChairTooFew$Party;)Z"⟩
def RX7 : String := "ChairTooFew$Walker"
def TX7 : u_T := fun k => match k with
  | 0 => ("ChairTooFew$Walker", "place", "I", false)
  | 1 => ("ChairTooFew$Walker", "parts", "I", false)
  | 2 => ("ChairTooFew$Walker", "in", "Z", false)
  | 3 => ("ChairTooFew$Walker", "kind", "I", false)
  | 4 => ("ChairTooFew$Walker", "fast", "I", false)
  | 5 => ("ChairTooFew$Walker", "slow", "I", false)
  | 6 => ("ChairTooFew$Walker", "reach", "I", false)
  | 7 => ("ChairTooFew$Walker", "size", "I", false)
  | _ => ("ChairTooFew$Walker", "manners", "I", false)
def tyX7 : Nat → FieldType := fun k => match k with
  | 0 => .int
  | 1 => .int
  | 2 => .boolean
  | 3 => .int
  | 4 => .int
  | 5 => .int
  | 6 => .int
  | 7 => .int
  | _ => .int
abbrev wsX70 : List Cond := u_ws RX7 TX7 9
theorem nmX7 : ∀ a, a < 9 → ∀ b, b < 9 → a ≠ b → (TX7 a).2.1 ≠ (TX7 b).2.1 := by decide +kernel
theorem tyX7_ok : ∀ k, k < 9 → parseFieldDescriptor (TX7 k).2.2.1 = some (tyX7 k) := by decide +kernel
abbrev cX7_init : ByteArray := prog_9_method_1_code
def yX7_init : MethodName := ⟨RX7, "<init>", "()V"⟩
abbrev cX7_arrive : ByteArray := prog_9_method_2_code
def yX7_arrive : MethodName := ⟨RX7, "arrive", "(III)V"⟩
abbrev cX7_become : ByteArray := prog_9_method_3_code
def yX7_become : MethodName := ⟨RX7, "become", "(LChairTooFew$Walker;)V"⟩
abbrev cX7_hasteOver : ByteArray := prog_9_method_4_code
def yX7_hasteOver : MethodName := ⟨RX7, "hasteOver", "(I)I"⟩
abbrev cX7_change : ByteArray := prog_9_method_5_code
def yX7_change : MethodName := ⟨RX7, "change", "(II)I"⟩
abbrev cX7_tell : ByteArray := prog_9_method_6_code
def yX7_tell : MethodName := ⟨RX7, "tell", "(I)I"⟩
def RX8 : String := "ChairTooFew"
def TX8 : u_T := fun k => match k with
  | 0 => ("ChairTooFew", "mind", "LChairTooFew$Mind;", true)
  | 1 => ("ChairTooFew", "real", "LChairTooFew$Party;", true)
  | 2 => ("ChairTooFew", "kept", "LChairTooFew$Party;", true)
  | 3 => ("ChairTooFew", "stops", "LChairTooFew$Numbers;", true)
  | 4 => ("ChairTooFew", "pictures", "LChairTooFew$Numbers;", true)
  | 5 => ("ChairTooFew", "text", "LChairTooFew$Text;", true)
  | 6 => ("ChairTooFew", "refusals", "[I", true)
  | _ => ("ChairTooFew", "imageTaken", "Z", false)
def tyX8 : Nat → FieldType := fun k => match k with
  | 0 => .object "ChairTooFew$Mind"
  | 1 => .object "ChairTooFew$Party"
  | 2 => .object "ChairTooFew$Party"
  | 3 => .object "ChairTooFew$Numbers"
  | 4 => .object "ChairTooFew$Numbers"
  | 5 => .object "ChairTooFew$Text"
  | 6 => .array .int
  | _ => .boolean
abbrev wsX80 : List Cond := u_ws RX8 TX8 8
theorem nmX8 : ∀ a, a < 8 → ∀ b, b < 8 → a ≠ b → (TX8 a).2.1 ≠ (TX8 b).2.1 := by decide +kernel
theorem tyX8_ok : ∀ k, k < 8 → parseFieldDescriptor (TX8 k).2.2.1 = some (tyX8 k) := by decide +kernel
abbrev cX8_init : ByteArray := prog_1_method_1_code
def yX8_init : MethodName := ⟨RX8, "<init>", "()V"⟩
abbrev cX8_feed : ByteArray := prog_1_method_2_code
def yX8_feed : MethodName := ⟨RX8, "feed", "(IJ)I"⟩
abbrev cX8_party : ByteArray := prog_1_method_3_code
def yX8_party : MethodName := ⟨RX8, "party", "()I"⟩
abbrev cX8_chair : ByteArray := prog_1_method_4_code
def yX8_chair : MethodName := ⟨RX8, "chair", "(I)I"⟩
abbrev cX8_walker : ByteArray := prog_1_method_5_code
def yX8_walker : MethodName := ⟨RX8, "walker", "(III)I"⟩
abbrev cX8_set : ByteArray := prog_1_method_6_code
def yX8_set : MethodName := ⟨RX8, "set", "(III)I"⟩
abbrev cX8_player : ByteArray := prog_1_method_7_code
def yX8_player : MethodName := ⟨RX8, "player", "(II)I"⟩
abbrev cX8_form : ByteArray := prog_1_method_8_code
def yX8_form : MethodName := ⟨RX8, "form", "(I)I"⟩
abbrev cX8_seed : ByteArray := prog_1_method_9_code
def yX8_seed : MethodName := ⟨RX8, "seed", "(I)I"⟩
abbrev cX8_of : ByteArray := prog_1_method_10_code
def yX8_of : MethodName := ⟨RX8, "of", "(II)I"⟩
abbrev cX8_has : ByteArray := prog_1_method_11_code
def yX8_has : MethodName := ⟨RX8, "has", "(I)I"⟩
abbrev cX8_haste : ByteArray := prog_1_method_12_code
def yX8_haste : MethodName := ⟨RX8, "haste", "(II)I"⟩
abbrev cX8_go : ByteArray := prog_1_method_13_code
def yX8_go : MethodName := ⟨RX8, "go", "(I)I"⟩
abbrev cX8_stop : ByteArray := prog_1_method_14_code
def yX8_stop : MethodName := ⟨RX8, "stop", "()I"⟩
abbrev cX8_sits : ByteArray := prog_1_method_15_code
def yX8_sits : MethodName := ⟨RX8, "sits", "(I)I"⟩
abbrev cX8_would : ByteArray := prog_1_method_16_code
def yX8_would : MethodName := ⟨RX8, "would", "(I)I"⟩
abbrev cX8_odds : ByteArray := prog_1_method_17_code
def yX8_odds : MethodName := ⟨RX8, "odds", "(II)I"⟩
abbrev cX8_fair : ByteArray := prog_1_method_18_code
def yX8_fair : MethodName := ⟨RX8, "fair", "(I)I"⟩
abbrev cX8_bestSlow : ByteArray := prog_1_method_19_code
def yX8_bestSlow : MethodName := ⟨RX8, "bestSlow", "(II)I"⟩
abbrev cX8_cheat : ByteArray := prog_1_method_20_code
def yX8_cheat : MethodName := ⟨RX8, "cheat", "(II)I"⟩
abbrev cX8_lasts : ByteArray := prog_1_method_21_code
def yX8_lasts : MethodName := ⟨RX8, "lasts", "(I)I"⟩
abbrev cX8_wins : ByteArray := prog_1_method_22_code
def yX8_wins : MethodName := ⟨RX8, "wins", "(III)I"⟩
abbrev cX8_fairest : ByteArray := prog_1_method_23_code
def yX8_fairest : MethodName := ⟨RX8, "fairest", "(II)I"⟩
abbrev cX8_shortest : ByteArray := prog_1_method_24_code
def yX8_shortest : MethodName := ⟨RX8, "shortest", "()I"⟩
abbrev cX8_row : ByteArray := prog_1_method_25_code
def yX8_row : MethodName := ⟨RX8, "row", "(I)I"⟩
abbrev cX8_could : ByteArray := prog_1_method_26_code
def yX8_could : MethodName := ⟨RX8, "could", "()I"⟩
abbrev cX8_next : ByteArray := prog_1_method_27_code
def yX8_next : MethodName := ⟨RX8, "next", "(I)I"⟩
abbrev cX8_team : ByteArray := prog_1_method_28_code
def yX8_team : MethodName := ⟨RX8, "team", "(IIII)I"⟩
abbrev cX8_film : ByteArray := prog_1_method_29_code
def yX8_film : MethodName := ⟨RX8, "film", "(I)I"⟩
abbrev cX8_judge : ByteArray := prog_1_method_30_code
def yX8_judge : MethodName := ⟨RX8, "judge", "(I)I"⟩
abbrev cX8_image : ByteArray := prog_1_method_31_code
def yX8_image : MethodName := ⟨RX8, "image", "()I"⟩
abbrev cX8_restore : ByteArray := prog_1_method_32_code
def yX8_restore : MethodName := ⟨RX8, "restore", "()I"⟩
abbrev cX8_count : ByteArray := prog_1_method_33_code
def yX8_count : MethodName := ⟨RX8, "count", "(I)I"⟩
abbrev cX8_refuse : ByteArray := prog_1_method_34_code
def yX8_refuse : MethodName := ⟨RX8, "refuse", "(I)I"⟩
abbrev cX8_whyNotSeeds : ByteArray := prog_1_method_35_code
def yX8_whyNotSeeds : MethodName := ⟨RX8, "whyNotSeeds", "(I)I"⟩
abbrev cX8_couldAllBeBy : ByteArray := prog_1_method_36_code
def yX8_couldAllBeBy : MethodName := ⟨RX8, "couldAllBeBy", "(I)Z"⟩
abbrev cX8_whyNotWithin : ByteArray := prog_1_method_37_code
def yX8_whyNotWithin : MethodName := ⟨RX8, "whyNotWithin", "(III)I"⟩
abbrev cX8_leastOf : ByteArray := prog_1_method_38_code
def yX8_leastOf : MethodName := ⟨RX8, "leastOf", "(I)I"⟩
abbrev cX8_greatestOf : ByteArray := prog_1_method_39_code
def yX8_greatestOf : MethodName := ⟨RX8, "greatestOf", "(I)I"⟩
def RX9 : String := "ChairTooFewModel"
def TX9 : u_T := fun k => match k with
  | 0 => ("ChairTooFewModel", "refused", "[I", true)
  | 1 => ("ChairTooFewModel", "chair", "[I", true)
  | 2 => ("ChairTooFewModel", "place", "[I", true)
  | 3 => ("ChairTooFewModel", "parts", "[I", true)
  | 4 => ("ChairTooFewModel", "in", "[I", true)
  | 5 => ("ChairTooFewModel", "kind", "[I", true)
  | 6 => ("ChairTooFewModel", "fast", "[I", true)
  | 7 => ("ChairTooFewModel", "slow", "[I", true)
  | 8 => ("ChairTooFewModel", "reach", "[I", true)
  | 9 => ("ChairTooFewModel", "size", "[I", true)
  | 10 => ("ChairTooFewModel", "manners", "[I", true)
  | 11 => ("ChairTooFewModel", "places", "I", false)
  | 12 => ("ChairTooFewModel", "walkers", "I", false)
  | 13 => ("ChairTooFewModel", "playerKind", "I", false)
  | 14 => ("ChairTooFewModel", "figure", "I", false)
  | 15 => ("ChairTooFewModel", "form", "I", false)
  | 16 => ("ChairTooFewModel", "lots", "I", false)
  | 17 => ("ChairTooFewModel", "tenths", "I", false)
  | 18 => ("ChairTooFewModel", "rounds", "I", false)
  | 19 => ("ChairTooFewModel", "hasEnded", "I", false)
  | 20 => ("ChairTooFewModel", "tape", "[I", true)
  | 21 => ("ChairTooFewModel", "letter", "[I", true)
  | 22 => ("ChairTooFewModel", "letterAt", "[I", true)
  | 23 => ("ChairTooFewModel", "first", "[I", true)
  | 24 => ("ChairTooFewModel", "second", "[I", true)
  | 25 => ("ChairTooFewModel", "third", "[I", true)
  | 26 => ("ChairTooFewModel", "taped", "I", false)
  | 27 => ("ChairTooFewModel", "at", "I", false)
  | 28 => ("ChairTooFewModel", "statements", "I", false)
  | 29 => ("ChairTooFewModel", "kept", "[I", true)
  | 30 => ("ChairTooFewModel", "hasImage", "Z", false)
  | 31 => ("ChairTooFewModel", "isKeeping", "Z", false)
  | 32 => ("ChairTooFewModel", "cursor", "I", false)
  | 33 => ("ChairTooFewModel", "seat", "[I", true)
  | 34 => ("ChairTooFewModel", "often", "[I", true)
  | 35 => ("ChairTooFewModel", "together", "I", false)
  | 36 => ("ChairTooFewModel", "held", "I", false)
  | 37 => ("ChairTooFewModel", "partyTenths", "I", false)
  | 38 => ("ChairTooFewModel", "partyRounds", "I", false)
  | 39 => ("ChairTooFewModel", "winner", "I", false)
  | 40 => ("ChairTooFewModel", "row", "[I", true)
  | 41 => ("ChairTooFewModel", "film", "[I", true)
  | 42 => ("ChairTooFewModel", "rowMany", "I", false)
  | _ => ("ChairTooFewModel", "filmMany", "I", false)
def tyX9 : Nat → FieldType := fun k => match k with
  | 0 => .array .int
  | 1 => .array .int
  | 2 => .array .int
  | 3 => .array .int
  | 4 => .array .int
  | 5 => .array .int
  | 6 => .array .int
  | 7 => .array .int
  | 8 => .array .int
  | 9 => .array .int
  | 10 => .array .int
  | 11 => .int
  | 12 => .int
  | 13 => .int
  | 14 => .int
  | 15 => .int
  | 16 => .int
  | 17 => .int
  | 18 => .int
  | 19 => .int
  | 20 => .array .int
  | 21 => .array .int
  | 22 => .array .int
  | 23 => .array .int
  | 24 => .array .int
  | 25 => .array .int
  | 26 => .int
  | 27 => .int
  | 28 => .int
  | 29 => .array .int
  | 30 => .boolean
  | 31 => .boolean
  | 32 => .int
  | 33 => .array .int
  | 34 => .array .int
  | 35 => .int
  | 36 => .int
  | 37 => .int
  | 38 => .int
  | 39 => .int
  | 40 => .array .int
  | 41 => .array .int
  | 42 => .int
  | _ => .int
abbrev wsX90 : List Cond := u_ws RX9 TX9 44
theorem nmX9 : ∀ a, a < 44 → ∀ b, b < 44 → a ≠ b → (TX9 a).2.1 ≠ (TX9 b).2.1 := by decide +kernel
theorem tyX9_ok : ∀ k, k < 44 → parseFieldDescriptor (TX9 k).2.2.1 = some (tyX9 k) := by decide +kernel
abbrev cX9_init : ByteArray := prog_11_method_1_code
def yX9_init : MethodName := ⟨RX9, "<init>", "()V"⟩
abbrev cX9_no : ByteArray := prog_11_method_2_code
def yX9_no : MethodName := ⟨RX9, "no", "(I)I"⟩
abbrev cX9_isIn : ByteArray := prog_11_method_3_code
def yX9_isIn : MethodName := ⟨RX9, "isIn", "(III)Z"⟩
abbrev cX9_bound : ByteArray := prog_11_method_4_code
def yX9_bound : MethodName := ⟨RX9, "bound", "(III)I"⟩
abbrev cX9_isPlace : ByteArray := prog_11_method_5_code
def yX9_isPlace : MethodName := ⟨RX9, "isPlace", "(I)Z"⟩
abbrev cX9_isWalker : ByteArray := prog_11_method_6_code
def yX9_isWalker : MethodName := ⟨RX9, "isWalker", "(I)Z"⟩
abbrev cX9_chairs : ByteArray := prog_11_method_7_code
def yX9_chairs : MethodName := ⟨RX9, "chairs", "()I"⟩
abbrev cX9_far : ByteArray := prog_11_method_8_code
def yX9_far : MethodName := ⟨RX9, "far", "(II)I"⟩
abbrev cX9_isTaken : ByteArray := prog_11_method_9_code
def yX9_isTaken : MethodName := ⟨RX9, "isTaken", "(I)Z"⟩
abbrev cX9_ins : ByteArray := prog_11_method_10_code
def yX9_ins : MethodName := ⟨RX9, "ins", "()I"⟩
abbrev cX9_comesChair : ByteArray := prog_11_method_11_code
def yX9_comesChair : MethodName := ⟨RX9, "comesChair", "(I)V"⟩
abbrev cX9_comesWalker : ByteArray := prog_11_method_12_code
def yX9_comesWalker : MethodName := ⟨RX9, "comesWalker", "(III)V"⟩
abbrev cX9_chair : ByteArray := prog_11_method_13_code
def yX9_chair : MethodName := ⟨RX9, "chair", "(I)I"⟩
abbrev cX9_walker : ByteArray := prog_11_method_14_code
def yX9_walker : MethodName := ⟨RX9, "walker", "(III)I"⟩
abbrev cX9_set : ByteArray := prog_11_method_15_code
def yX9_set : MethodName := ⟨RX9, "set", "(III)I"⟩
abbrev cX9_player : ByteArray := prog_11_method_16_code
def yX9_player : MethodName := ⟨RX9, "player", "(II)I"⟩
abbrev cX9_form : ByteArray := prog_11_method_17_code
def yX9_form : MethodName := ⟨RX9, "form", "(I)I"⟩
abbrev cX9_seed : ByteArray := prog_11_method_18_code
def yX9_seed : MethodName := ⟨RX9, "seed", "(I)I"⟩
abbrev cX9_of : ByteArray := prog_11_method_19_code
def yX9_of : MethodName := ⟨RX9, "of", "(II)I"⟩
abbrev cX9_has : ByteArray := prog_11_method_20_code
def yX9_has : MethodName := ⟨RX9, "has", "(I)I"⟩
abbrev cX9_hasteOf : ByteArray := prog_11_method_21_code
def yX9_hasteOf : MethodName := ⟨RX9, "hasteOf", "(II)I"⟩
abbrev cX9_haste : ByteArray := prog_11_method_22_code
def yX9_haste : MethodName := ⟨RX9, "haste", "(II)I"⟩
abbrev cX9_feed : ByteArray := prog_11_method_23_code
def yX9_feed : MethodName := ⟨RX9, "feed", "(IJ)I"⟩
abbrev cX9_sign : ByteArray := prog_11_method_24_code
def yX9_sign : MethodName := ⟨RX9, "sign", "()I"⟩
abbrev cX9_takes : ByteArray := prog_11_method_25_code
def yX9_takes : MethodName := ⟨RX9, "takes", "(I)Z"⟩
abbrev cX9_number : ByteArray := prog_11_method_26_code
def yX9_number : MethodName := ⟨RX9, "number", "(I)I"⟩
abbrev cX9_statement : ByteArray := prog_11_method_27_code
def yX9_statement : MethodName := ⟨RX9, "statement", "()Z"⟩
abbrev cX9_comes : ByteArray := prog_11_method_28_code
def yX9_comes : MethodName := ⟨RX9, "comes", "(I)Z"⟩
abbrev cX9_party : ByteArray := prog_11_method_29_code
def yX9_party : MethodName := ⟨RX9, "party", "()I"⟩
abbrev cX9_passes : ByteArray := prog_11_method_30_code
def yX9_passes : MethodName := ⟨RX9, "passes", "([I)V"⟩
abbrev cX9_passOne : ByteArray := prog_11_method_31_code
def yX9_passOne : MethodName := ⟨RX9, "passOne", "(I)I"⟩
abbrev cX9_passesAll : ByteArray := prog_11_method_32_code
def yX9_passesAll : MethodName := ⟨RX9, "passesAll", "(IZ)V"⟩
abbrev cX9_walks : ByteArray := prog_11_method_33_code
def yX9_walks : MethodName := ⟨RX9, "walks", "()V"⟩
abbrev cX9_isSeat : ByteArray := prog_11_method_34_code
def yX9_isSeat : MethodName := ⟨RX9, "isSeat", "(I)Z"⟩
abbrev cX9_mayReach : ByteArray := prog_11_method_35_code
def yX9_mayReach : MethodName := ⟨RX9, "mayReach", "(II)Z"⟩
abbrev cX9_seatsOne : ByteArray := prog_11_method_36_code
def yX9_seatsOne : MethodName := ⟨RX9, "seatsOne", "()Z"⟩
abbrev cX9_judges : ByteArray := prog_11_method_37_code
def yX9_judges : MethodName := ⟨RX9, "judges", "(I)V"⟩
abbrev cX9_sit : ByteArray := prog_11_method_38_code
def yX9_sit : MethodName := ⟨RX9, "sit", "()V"⟩
abbrev cX9_nearest : ByteArray := prog_11_method_39_code
def yX9_nearest : MethodName := ⟨RX9, "nearest", "(I)I"⟩
abbrev cX9_goer : ByteArray := prog_11_method_40_code
def yX9_goer : MethodName := ⟨RX9, "goer", "()I"⟩
abbrev cX9_ways : ByteArray := prog_11_method_41_code
def yX9_ways : MethodName := ⟨RX9, "ways", "(I)I"⟩
abbrev cX9_leaver : ByteArray := prog_11_method_42_code
def yX9_leaver : MethodName := ⟨RX9, "leaver", "()I"⟩
abbrev cX9_stops : ByteArray := prog_11_method_43_code
def yX9_stops : MethodName := ⟨RX9, "stops", "()I"⟩
abbrev cX9_doesStop : ByteArray := prog_11_method_44_code
def yX9_doesStop : MethodName := ⟨RX9, "doesStop", "()Z"⟩
abbrev cX9_goesOn : ByteArray := prog_11_method_45_code
def yX9_goesOn : MethodName := ⟨RX9, "goesOn", "()Z"⟩
abbrev cX9_isOver : ByteArray := prog_11_method_46_code
def yX9_isOver : MethodName := ⟨RX9, "isOver", "()Z"⟩
abbrev cX9_go : ByteArray := prog_11_method_47_code
def yX9_go : MethodName := ⟨RX9, "go", "(I)I"⟩
abbrev cX9_stop : ByteArray := prog_11_method_48_code
def yX9_stop : MethodName := ⟨RX9, "stop", "()I"⟩
abbrev cX9_isThere : ByteArray := prog_11_method_49_code
def yX9_isThere : MethodName := ⟨RX9, "isThere", "(I)Z"⟩
abbrev cX9_sits : ByteArray := prog_11_method_50_code
def yX9_sits : MethodName := ⟨RX9, "sits", "(I)I"⟩
abbrev cX9_would : ByteArray := prog_11_method_51_code
def yX9_would : MethodName := ⟨RX9, "would", "(I)I"⟩
abbrev cX9_findOdds : ByteArray := prog_11_method_52_code
def yX9_findOdds : MethodName := ⟨RX9, "findOdds", "(III)V"⟩
abbrev cX9_oddsOf : ByteArray := prog_11_method_53_code
def yX9_oddsOf : MethodName := ⟨RX9, "oddsOf", "(II)I"⟩
abbrev cX9_notOdds : ByteArray := prog_11_method_54_code
def yX9_notOdds : MethodName := ⟨RX9, "notOdds", "(II)I"⟩
abbrev cX9_odds : ByteArray := prog_11_method_55_code
def yX9_odds : MethodName := ⟨RX9, "odds", "(II)I"⟩
abbrev cX9_fair : ByteArray := prog_11_method_56_code
def yX9_fair : MethodName := ⟨RX9, "fair", "(I)I"⟩
abbrev cX9_oddsBy : ByteArray := prog_11_method_57_code
def yX9_oddsBy : MethodName := ⟨RX9, "oddsBy", "(III)I"⟩
abbrev cX9_bestSlow : ByteArray := prog_11_method_58_code
def yX9_bestSlow : MethodName := ⟨RX9, "bestSlow", "(II)I"⟩
abbrev cX9_cheat : ByteArray := prog_11_method_59_code
def yX9_cheat : MethodName := ⟨RX9, "cheat", "(II)I"⟩
abbrev cX9_plays : ByteArray := prog_11_method_60_code
def yX9_plays : MethodName := ⟨RX9, "plays", "()V"⟩
abbrev cX9_partyBy : ByteArray := prog_11_method_61_code
def yX9_partyBy : MethodName := ⟨RX9, "partyBy", "(III)V"⟩
abbrev cX9_lasts : ByteArray := prog_11_method_62_code
def yX9_lasts : MethodName := ⟨RX9, "lasts", "(I)I"⟩
abbrev cX9_wins : ByteArray := prog_11_method_63_code
def yX9_wins : MethodName := ⟨RX9, "wins", "(III)I"⟩
abbrev cX9_fairest : ByteArray := prog_11_method_64_code
def yX9_fairest : MethodName := ⟨RX9, "fairest", "(II)I"⟩
abbrev cX9_shortest : ByteArray := prog_11_method_65_code
def yX9_shortest : MethodName := ⟨RX9, "shortest", "()I"⟩
abbrev cX9_row : ByteArray := prog_11_method_66_code
def yX9_row : MethodName := ⟨RX9, "row", "(I)I"⟩
abbrev cX9_could : ByteArray := prog_11_method_67_code
def yX9_could : MethodName := ⟨RX9, "could", "()I"⟩
abbrev cX9_next : ByteArray := prog_11_method_68_code
def yX9_next : MethodName := ⟨RX9, "next", "(I)I"⟩
abbrev cX9_team : ByteArray := prog_11_method_69_code
def yX9_team : MethodName := ⟨RX9, "team", "(IIII)I"⟩
abbrev cX9_film : ByteArray := prog_11_method_70_code
def yX9_film : MethodName := ⟨RX9, "film", "(I)I"⟩
abbrev cX9_judge : ByteArray := prog_11_method_71_code
def yX9_judge : MethodName := ⟨RX9, "judge", "(I)I"⟩
abbrev cX9_image : ByteArray := prog_11_method_72_code
def yX9_image : MethodName := ⟨RX9, "image", "()I"⟩
abbrev cX9_restore : ByteArray := prog_11_method_73_code
def yX9_restore : MethodName := ⟨RX9, "restore", "()I"⟩
abbrev cX9_count : ByteArray := prog_11_method_74_code
def yX9_count : MethodName := ⟨RX9, "count", "(I)I"⟩
def RJ6 : String := "java/lang/Integer"
def TJ6 : u_T := fun k => match k with
  | _ => ("", "", "", false)
def tyJ6 : Nat → FieldType := fun k => match k with
  | _ => .int
abbrev wsJ60 : List Cond := u_ws RJ6 TJ6 0
theorem nmJ6 : ∀ a, a < 0 → ∀ b, b < 0 → a ≠ b → (TJ6 a).2.1 ≠ (TJ6 b).2.1 := by decide +kernel
theorem tyJ6_ok : ∀ k, k < 0 → parseFieldDescriptor (TJ6 k).2.2.1 = some (tyJ6 k) := by decide +kernel
abbrev cJ6_bitCount_0f7a4 : ByteArray := prog_12_method_49_code
def yJ6_bitCount_0f7a4 : MethodName := ⟨RJ6, "bitCount", "(I)I"⟩
def RJ9 : String := "java/lang/Math"
def TJ9 : u_T := fun k => match k with
  | _ => ("", "", "", false)
def tyJ9 : Nat → FieldType := fun k => match k with
  | _ => .int
abbrev wsJ90 : List Cond := u_ws RJ9 TJ9 0
theorem nmJ9 : ∀ a, a < 0 → ∀ b, b < 0 → a ≠ b → (TJ9 a).2.1 ≠ (TJ9 b).2.1 := by decide +kernel
theorem tyJ9_ok : ∀ k, k < 0 → parseFieldDescriptor (TJ9 k).2.2.1 = some (tyJ9 k) := by decide +kernel
abbrev cJ9_max_7cf53 : ByteArray := prog_13_method_65_code
def yJ9_max_7cf53 : MethodName := ⟨RJ9, "max", "(II)I"⟩
abbrev cJ9_min_7cf53 : ByteArray := prog_13_method_69_code
def yJ9_min_7cf53 : MethodName := ⟨RJ9, "min", "(II)I"⟩
def RJ0 : String := "java/lang/String"
def TJ0 : u_T := fun k => match k with
  | _ => ("", "", "", false)
def tyJ0 : Nat → FieldType := fun k => match k with
  | _ => .int
abbrev wsJ00 : List Cond := u_ws RJ0 TJ0 0
theorem nmJ0 : ∀ a, a < 0 → ∀ b, b < 0 → a ≠ b → (TJ0 a).2.1 ≠ (TJ0 b).2.1 := by decide +kernel
theorem tyJ0_ok : ∀ k, k < 0 → parseFieldDescriptor (TJ0 k).2.2.1 = some (tyJ0 k) := by decide +kernel
abbrev cJ0_length_8abf5 : ByteArray := prog_14_method_54_code
def yJ0_length_8abf5 : MethodName := ⟨RJ0, "length", "()I"⟩
abbrev cJ0_isEmpty_aae02 : ByteArray := prog_14_method_55_code
def yJ0_isEmpty_aae02 : MethodName := ⟨RJ0, "isEmpty", "()Z"⟩
abbrev cJ0_charAt_5068e : ByteArray := prog_14_method_56_code
def yJ0_charAt_5068e : MethodName := ⟨RJ0, "charAt", "(I)C"⟩
abbrev cJ0_coder_7d493 : ByteArray := prog_14_method_152_code
def yJ0_coder_7d493 : MethodName := ⟨RJ0, "coder", "()B"⟩
abbrev cJ0_isLatin1_aae02 : ByteArray := prog_14_method_154_code
def yJ0_isLatin1_aae02 : MethodName := ⟨RJ0, "isLatin1", "()Z"⟩
abbrev cJ0_checkIndex_df160 : ByteArray := prog_14_method_155_code
def yJ0_checkIndex_df160 : MethodName := ⟨RJ0, "checkIndex", "(II)V"⟩
def RJ1 : String := "java/lang/StringLatin1"
def TJ1 : u_T := fun k => match k with
  | _ => ("", "", "", false)
def tyJ1 : Nat → FieldType := fun k => match k with
  | _ => .int
abbrev wsJ10 : List Cond := u_ws RJ1 TJ1 0
theorem nmJ1 : ∀ a, a < 0 → ∀ b, b < 0 → a ≠ b → (TJ1 a).2.1 ≠ (TJ1 b).2.1 := by decide +kernel
theorem tyJ1_ok : ∀ k, k < 0 → parseFieldDescriptor (TJ1 k).2.2.1 = some (tyJ1 k) := by decide +kernel
abbrev cJ1_charAt_3b067 : ByteArray := prog_15_method_2_code
def yJ1_charAt_3b067 : MethodName := ⟨RJ1, "charAt", "([BI)C"⟩
def RJ2 : String := "java/lang/StringUTF16"
def TJ2 : u_T := fun k => match k with
  | _ => ("", "", "", false)
def tyJ2 : Nat → FieldType := fun k => match k with
  | _ => .int
abbrev wsJ20 : List Cond := u_ws RJ2 TJ2 0
theorem nmJ2 : ∀ a, a < 0 → ∀ b, b < 0 → a ≠ b → (TJ2 a).2.1 ≠ (TJ2 b).2.1 := by decide +kernel
theorem tyJ2_ok : ∀ k, k < 0 → parseFieldDescriptor (TJ2 k).2.2.1 = some (tyJ2 k) := by decide +kernel
abbrev cJ2_getChar_3b067 : ByteArray := prog_16_method_5_code
def yJ2_getChar_3b067 : MethodName := ⟨RJ2, "getChar", "([BI)C"⟩
abbrev cJ2_length_9d52b : ByteArray := prog_16_method_6_code
def yJ2_length_9d52b : MethodName := ⟨RJ2, "length", "([B)I"⟩
abbrev cJ2_charAt_3b067 : ByteArray := prog_16_method_83_code
def yJ2_charAt_3b067 : MethodName := ⟨RJ2, "charAt", "([BI)C"⟩
abbrev cJ2_checkIndex_2214a : ByteArray := prog_16_method_91_code
def yJ2_checkIndex_2214a : MethodName := ⟨RJ2, "checkIndex", "(I[B)V"⟩
def RJ10 : String := "java/lang/System"
def TJ10 : u_T := fun k => match k with
  | _ => ("", "", "", false)
def tyJ10 : Nat → FieldType := fun k => match k with
  | _ => .int
abbrev wsJ100 : List Cond := u_ws RJ10 TJ10 0
theorem nmJ10 : ∀ a, a < 0 → ∀ b, b < 0 → a ≠ b → (TJ10 a).2.1 ≠ (TJ10 b).2.1 := by decide +kernel
theorem tyJ10_ok : ∀ k, k < 0 → parseFieldDescriptor (TJ10 k).2.2.1 = some (tyJ10 k) := by decide +kernel
def RJ3 : String := "jdk/internal/util/Preconditions"
def TJ3 : u_T := fun k => match k with
  | _ => ("", "", "", false)
def tyJ3 : Nat → FieldType := fun k => match k with
  | _ => .int
abbrev wsJ30 : List Cond := u_ws RJ3 TJ3 0
theorem nmJ3 : ∀ a, a < 0 → ∀ b, b < 0 → a ≠ b → (TJ3 a).2.1 ≠ (TJ3 b).2.1 := by decide +kernel
theorem tyJ3_ok : ∀ k, k < 0 → parseFieldDescriptor (TJ3 k).2.2.1 = some (tyJ3 k) := by decide +kernel
abbrev cJ3_checkIndex_8e157 : ByteArray := prog_18_method_11_code
def yJ3_checkIndex_8e157 : MethodName := ⟨RJ3, "checkIndex", "(IILjava/util/function/BiFunction;)I"⟩
def RL : String := "ChairTooFewLaw"
abbrev cL_law : ByteArray := code
def yL_law : MethodName := ⟨RL, "law", "([I)Z"⟩
abbrev vwCl : List vw_C := [(RX0, TX0, 5), (RX1, TX1, 2), (RX2, TX2, 10), (RX3, TX3, 3), (RX4, TX4, 4), (RX5, TX5, 5), (RX6, TX6, 6), (RX7, TX7, 9), (RX8, TX8, 8), (RX9, TX9, 44)]
