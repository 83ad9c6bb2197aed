section
-- ===== PART A: goes FIRST, ahead of the names: the tables' words, and 'selects' of the private methods out of them =====
/-- a private method of a class that the tables say can be made, by its rows of tables_1 -/
def lw_okq (q : MethodName × Nat) : Prop := (q.1.cls ≠ "java/lang/invoke/MethodHandle" ∧ q.1.cls ≠ "java/lang/invoke/VarHandle") ∧ Cond.instantiable q.1.cls q.2 ∈ tables_1 ∧ Cond.privateMethod q.1 ∈ tables_1 ∧ Cond.instanceMethod q.1 ∈ tables_1
theorem lw_p0 : lw_okq (⟨"ChairTooFew", "refuse", "(I)I"⟩, 8) := ⟨⟨by decide +kernel, by decide +kernel⟩, List.mem_of_getElem? (i := 19) (by decide +kernel), List.mem_of_getElem? (i := 307) (by decide +kernel), List.mem_of_getElem? (i := 308) (by decide +kernel)⟩
theorem lw_p1 : lw_okq (⟨"ChairTooFew$Text", "begin", "()V"⟩, 6) := ⟨⟨by decide +kernel, by decide +kernel⟩, List.mem_of_getElem? (i := 250) (by decide +kernel), List.mem_of_getElem? (i := 327) (by decide +kernel), List.mem_of_getElem? (i := 328) (by decide +kernel)⟩
theorem lw_p2 : lw_okq (⟨"ChairTooFew$Text", "readStatement", "()Z"⟩, 6) := ⟨⟨by decide +kernel, by decide +kernel⟩, List.mem_of_getElem? (i := 250) (by decide +kernel), List.mem_of_getElem? (i := 331) (by decide +kernel), List.mem_of_getElem? (i := 332) (by decide +kernel)⟩
theorem lw_p3 : lw_okq (⟨"ChairTooFew$Text", "signAhead", "()I"⟩, 6) := ⟨⟨by decide +kernel, by decide +kernel⟩, List.mem_of_getElem? (i := 250) (by decide +kernel), List.mem_of_getElem? (i := 335) (by decide +kernel), List.mem_of_getElem? (i := 336) (by decide +kernel)⟩
theorem lw_p4 : lw_okq (⟨"ChairTooFew$Text", "readPart", "(C)Z"⟩, 6) := ⟨⟨by decide +kernel, by decide +kernel⟩, List.mem_of_getElem? (i := 250) (by decide +kernel), List.mem_of_getElem? (i := 396) (by decide +kernel), List.mem_of_getElem? (i := 397) (by decide +kernel)⟩
theorem lw_p5 : lw_okq (⟨"ChairTooFew$Text", "readDigits", "(I)Z"⟩, 6) := ⟨⟨by decide +kernel, by decide +kernel⟩, List.mem_of_getElem? (i := 250) (by decide +kernel), List.mem_of_getElem? (i := 400) (by decide +kernel), List.mem_of_getElem? (i := 401) (by decide +kernel)⟩
theorem lw_p6 : lw_okq (⟨"ChairTooFew$Text", "comesTrue", "(ILChairTooFew$Party;)Z"⟩, 6) := ⟨⟨by decide +kernel, by decide +kernel⟩, List.mem_of_getElem? (i := 250) (by decide +kernel), List.mem_of_getElem? (i := 435) (by decide +kernel), List.mem_of_getElem? (i := 436) (by decide +kernel)⟩
theorem lw_p7 : lw_okq (⟨"ChairTooFew$Text", "resize", "(LChairTooFew$Party;)Z"⟩, 6) := ⟨⟨by decide +kernel, by decide +kernel⟩, List.mem_of_getElem? (i := 250) (by decide +kernel), List.mem_of_getElem? (i := 439) (by decide +kernel), List.mem_of_getElem? (i := 440) (by decide +kernel)⟩
theorem lw_p8 : lw_okq (⟨"ChairTooFew$Text", "seatMore", "(LChairTooFew$Party;)Z"⟩, 6) := ⟨⟨by decide +kernel, by decide +kernel⟩, List.mem_of_getElem? (i := 250) (by decide +kernel), List.mem_of_getElem? (i := 446) (by decide +kernel), List.mem_of_getElem? (i := 447) (by decide +kernel)⟩
theorem lw_p9 : lw_okq (⟨"ChairTooFew$Text", "walkerMore", "(LChairTooFew$Party;)Z"⟩, 6) := ⟨⟨by decide +kernel, by decide +kernel⟩, List.mem_of_getElem? (i := 250) (by decide +kernel), List.mem_of_getElem? (i := 470) (by decide +kernel), List.mem_of_getElem? (i := 471) (by decide +kernel)⟩
theorem lw_p10 : lw_okq (⟨"ChairTooFew$Party", "mark", "(IZ)V"⟩, 10) := ⟨⟨by decide +kernel, by decide +kernel⟩, List.mem_of_getElem? (i := 33) (by decide +kernel), List.mem_of_getElem? (i := 491) (by decide +kernel), List.mem_of_getElem? (i := 492) (by decide +kernel)⟩
theorem lw_p11 : lw_okq (⟨"ChairTooFew$Text", "newPlayer", "(LChairTooFew$Party;)Z"⟩, 6) := ⟨⟨by decide +kernel, by decide +kernel⟩, List.mem_of_getElem? (i := 250) (by decide +kernel), List.mem_of_getElem? (i := 495) (by decide +kernel), List.mem_of_getElem? (i := 496) (by decide +kernel)⟩
theorem lw_p12 : lw_okq (⟨"ChairTooFew$Text", "newForm", "(LChairTooFew$Party;)Z"⟩, 6) := ⟨⟨by decide +kernel, by decide +kernel⟩, List.mem_of_getElem? (i := 250) (by decide +kernel), List.mem_of_getElem? (i := 504) (by decide +kernel), List.mem_of_getElem? (i := 505) (by decide +kernel)⟩
theorem lw_p13 : lw_okq (⟨"ChairTooFew$Party", "walk", "(LChairTooFew$Walker;)V"⟩, 10) := ⟨⟨by decide +kernel, by decide +kernel⟩, List.mem_of_getElem? (i := 33) (by decide +kernel), List.mem_of_getElem? (i := 602) (by decide +kernel), List.mem_of_getElem? (i := 603) (by decide +kernel)⟩
theorem lw_p14 : lw_okq (⟨"ChairTooFew$Party", "isLikedAtChair", "()Z"⟩, 10) := ⟨⟨by decide +kernel, by decide +kernel⟩, List.mem_of_getElem? (i := 33) (by decide +kernel), List.mem_of_getElem? (i := 613) (by decide +kernel), List.mem_of_getElem? (i := 614) (by decide +kernel)⟩
theorem lw_p15 : lw_okq (⟨"ChairTooFew$Seating", "measure", "(LChairTooFew$Party;)V"⟩, 5) := ⟨⟨by decide +kernel, by decide +kernel⟩, List.mem_of_getElem? (i := 92) (by decide +kernel), List.mem_of_getElem? (i := 629) (by decide +kernel), List.mem_of_getElem? (i := 630) (by decide +kernel)⟩
def lw_privs_1 : List (MethodName × Nat) := [(⟨"ChairTooFew", "refuse", "(I)I"⟩, 8), (⟨"ChairTooFew$Text", "begin", "()V"⟩, 6), (⟨"ChairTooFew$Text", "readStatement", "()Z"⟩, 6), (⟨"ChairTooFew$Text", "signAhead", "()I"⟩, 6), (⟨"ChairTooFew$Text", "readPart", "(C)Z"⟩, 6), (⟨"ChairTooFew$Text", "readDigits", "(I)Z"⟩, 6), (⟨"ChairTooFew$Text", "comesTrue", "(ILChairTooFew$Party;)Z"⟩, 6), (⟨"ChairTooFew$Text", "resize", "(LChairTooFew$Party;)Z"⟩, 6), (⟨"ChairTooFew$Text", "seatMore", "(LChairTooFew$Party;)Z"⟩, 6), (⟨"ChairTooFew$Text", "walkerMore", "(LChairTooFew$Party;)Z"⟩, 6), (⟨"ChairTooFew$Party", "mark", "(IZ)V"⟩, 10), (⟨"ChairTooFew$Text", "newPlayer", "(LChairTooFew$Party;)Z"⟩, 6), (⟨"ChairTooFew$Text", "newForm", "(LChairTooFew$Party;)Z"⟩, 6), (⟨"ChairTooFew$Party", "walk", "(LChairTooFew$Walker;)V"⟩, 10), (⟨"ChairTooFew$Party", "isLikedAtChair", "()Z"⟩, 10), (⟨"ChairTooFew$Seating", "measure", "(LChairTooFew$Party;)V"⟩, 5)]
theorem lw_r1 : ∀ q ∈ lw_privs_1, lw_okq q := List.forall_mem_cons.mpr ⟨lw_p0, List.forall_mem_cons.mpr ⟨lw_p1, List.forall_mem_cons.mpr ⟨lw_p2, List.forall_mem_cons.mpr ⟨lw_p3, List.forall_mem_cons.mpr ⟨lw_p4, List.forall_mem_cons.mpr ⟨lw_p5, List.forall_mem_cons.mpr ⟨lw_p6, List.forall_mem_cons.mpr ⟨lw_p7, List.forall_mem_cons.mpr ⟨lw_p8, List.forall_mem_cons.mpr ⟨lw_p9, List.forall_mem_cons.mpr ⟨lw_p10, List.forall_mem_cons.mpr ⟨lw_p11, List.forall_mem_cons.mpr ⟨lw_p12, List.forall_mem_cons.mpr ⟨lw_p13, List.forall_mem_cons.mpr ⟨lw_p14, List.forall_mem_cons.mpr ⟨lw_p15, fun _ h => absurd h List.not_mem_nil⟩⟩⟩⟩⟩⟩⟩⟩⟩⟩⟩⟩⟩⟩⟩⟩
theorem lw_p16 : lw_okq (⟨"ChairTooFew$Seating", "seatLeastHaste", "()Z"⟩, 5) := ⟨⟨by decide +kernel, by decide +kernel⟩, List.mem_of_getElem? (i := 92) (by decide +kernel), List.mem_of_getElem? (i := 640) (by decide +kernel), List.mem_of_getElem? (i := 641) (by decide +kernel)⟩
theorem lw_p17 : lw_okq (⟨"ChairTooFew$Seating", "giveWay", "(I)V"⟩, 5) := ⟨⟨by decide +kernel, by decide +kernel⟩, List.mem_of_getElem? (i := 92) (by decide +kernel), List.mem_of_getElem? (i := 644) (by decide +kernel), List.mem_of_getElem? (i := 645) (by decide +kernel)⟩
theorem lw_p18 : lw_okq (⟨"ChairTooFew$Ring", "mostCrowdedChair", "()I"⟩, 4) := ⟨⟨by decide +kernel, by decide +kernel⟩, List.mem_of_getElem? (i := 39) (by decide +kernel), List.mem_of_getElem? (i := 670) (by decide +kernel), List.mem_of_getElem? (i := 671) (by decide +kernel)⟩
theorem lw_p19 : lw_okq (⟨"ChairTooFew$Ring", "wayOn", "(II)I"⟩, 4) := ⟨⟨by decide +kernel, by decide +kernel⟩, List.mem_of_getElem? (i := 39) (by decide +kernel), List.mem_of_getElem? (i := 675) (by decide +kernel), List.mem_of_getElem? (i := 676) (by decide +kernel)⟩
theorem lw_p20 : lw_okq (⟨"ChairTooFew$Mind", "seatBehindTenth", "()V"⟩, 5) := ⟨⟨by decide +kernel, by decide +kernel⟩, List.mem_of_getElem? (i := 27) (by decide +kernel), List.mem_of_getElem? (i := 716) (by decide +kernel), List.mem_of_getElem? (i := 717) (by decide +kernel)⟩
theorem lw_p21 : lw_okq (⟨"ChairTooFew$Mind", "countSeatedTimes", "(I)V"⟩, 5) := ⟨⟨by decide +kernel, by decide +kernel⟩, List.mem_of_getElem? (i := 27) (by decide +kernel), List.mem_of_getElem? (i := 731) (by decide +kernel), List.mem_of_getElem? (i := 732) (by decide +kernel)⟩
theorem lw_p22 : lw_okq (⟨"ChairTooFew$Mind", "playOut", "()V"⟩, 5) := ⟨⟨by decide +kernel, by decide +kernel⟩, List.mem_of_getElem? (i := 27) (by decide +kernel), List.mem_of_getElem? (i := 766) (by decide +kernel), List.mem_of_getElem? (i := 767) (by decide +kernel)⟩
theorem lw_p23 : lw_okq (⟨"ChairTooFew", "whyNotSeeds", "(I)I"⟩, 8) := ⟨⟨by decide +kernel, by decide +kernel⟩, List.mem_of_getElem? (i := 19) (by decide +kernel), List.mem_of_getElem? (i := 780) (by decide +kernel), List.mem_of_getElem? (i := 781) (by decide +kernel)⟩
theorem lw_p24 : lw_okq (⟨"ChairTooFew", "couldAllBeBy", "(I)Z"⟩, 8) := ⟨⟨by decide +kernel, by decide +kernel⟩, List.mem_of_getElem? (i := 19) (by decide +kernel), List.mem_of_getElem? (i := 831) (by decide +kernel), List.mem_of_getElem? (i := 832) (by decide +kernel)⟩
theorem lw_p25 : lw_okq (⟨"ChairTooFewModel", "isPlace", "(I)Z"⟩, 44) := ⟨⟨by decide +kernel, by decide +kernel⟩, List.mem_of_getElem? (i := 892) (by decide +kernel), List.mem_of_getElem? (i := 1035) (by decide +kernel), List.mem_of_getElem? (i := 1036) (by decide +kernel)⟩
theorem lw_p26 : lw_okq (⟨"ChairTooFewModel", "no", "(I)I"⟩, 44) := ⟨⟨by decide +kernel, by decide +kernel⟩, List.mem_of_getElem? (i := 892) (by decide +kernel), List.mem_of_getElem? (i := 1039) (by decide +kernel), List.mem_of_getElem? (i := 1040) (by decide +kernel)⟩
theorem lw_p27 : lw_okq (⟨"ChairTooFewModel", "chairs", "()I"⟩, 44) := ⟨⟨by decide +kernel, by decide +kernel⟩, List.mem_of_getElem? (i := 892) (by decide +kernel), List.mem_of_getElem? (i := 1043) (by decide +kernel), List.mem_of_getElem? (i := 1044) (by decide +kernel)⟩
theorem lw_p28 : lw_okq (⟨"ChairTooFewModel", "comesChair", "(I)V"⟩, 44) := ⟨⟨by decide +kernel, by decide +kernel⟩, List.mem_of_getElem? (i := 892) (by decide +kernel), List.mem_of_getElem? (i := 1047) (by decide +kernel), List.mem_of_getElem? (i := 1048) (by decide +kernel)⟩
theorem lw_p29 : lw_okq (⟨"ChairTooFewModel", "isTaken", "(I)Z"⟩, 44) := ⟨⟨by decide +kernel, by decide +kernel⟩, List.mem_of_getElem? (i := 892) (by decide +kernel), List.mem_of_getElem? (i := 1061) (by decide +kernel), List.mem_of_getElem? (i := 1062) (by decide +kernel)⟩
theorem lw_p30 : lw_okq (⟨"ChairTooFewModel", "comesWalker", "(III)V"⟩, 44) := ⟨⟨by decide +kernel, by decide +kernel⟩, List.mem_of_getElem? (i := 892) (by decide +kernel), List.mem_of_getElem? (i := 1065) (by decide +kernel), List.mem_of_getElem? (i := 1066) (by decide +kernel)⟩
theorem lw_p31 : lw_okq (⟨"ChairTooFewModel", "isWalker", "(I)Z"⟩, 44) := ⟨⟨by decide +kernel, by decide +kernel⟩, List.mem_of_getElem? (i := 892) (by decide +kernel), List.mem_of_getElem? (i := 1073) (by decide +kernel), List.mem_of_getElem? (i := 1074) (by decide +kernel)⟩
def lw_privs_2 : List (MethodName × Nat) := [(⟨"ChairTooFew$Seating", "seatLeastHaste", "()Z"⟩, 5), (⟨"ChairTooFew$Seating", "giveWay", "(I)V"⟩, 5), (⟨"ChairTooFew$Ring", "mostCrowdedChair", "()I"⟩, 4), (⟨"ChairTooFew$Ring", "wayOn", "(II)I"⟩, 4), (⟨"ChairTooFew$Mind", "seatBehindTenth", "()V"⟩, 5), (⟨"ChairTooFew$Mind", "countSeatedTimes", "(I)V"⟩, 5), (⟨"ChairTooFew$Mind", "playOut", "()V"⟩, 5), (⟨"ChairTooFew", "whyNotSeeds", "(I)I"⟩, 8), (⟨"ChairTooFew", "couldAllBeBy", "(I)Z"⟩, 8), (⟨"ChairTooFewModel", "isPlace", "(I)Z"⟩, 44), (⟨"ChairTooFewModel", "no", "(I)I"⟩, 44), (⟨"ChairTooFewModel", "chairs", "()I"⟩, 44), (⟨"ChairTooFewModel", "comesChair", "(I)V"⟩, 44), (⟨"ChairTooFewModel", "isTaken", "(I)Z"⟩, 44), (⟨"ChairTooFewModel", "comesWalker", "(III)V"⟩, 44), (⟨"ChairTooFewModel", "isWalker", "(I)Z"⟩, 44)]
theorem lw_r2 : ∀ q ∈ lw_privs_2, lw_okq q := List.forall_mem_cons.mpr ⟨lw_p16, List.forall_mem_cons.mpr ⟨lw_p17, List.forall_mem_cons.mpr ⟨lw_p18, List.forall_mem_cons.mpr ⟨lw_p19, List.forall_mem_cons.mpr ⟨lw_p20, List.forall_mem_cons.mpr ⟨lw_p21, List.forall_mem_cons.mpr ⟨lw_p22, List.forall_mem_cons.mpr ⟨lw_p23, List.forall_mem_cons.mpr ⟨lw_p24, List.forall_mem_cons.mpr ⟨lw_p25, List.forall_mem_cons.mpr ⟨lw_p26, List.forall_mem_cons.mpr ⟨lw_p27, List.forall_mem_cons.mpr ⟨lw_p28, List.forall_mem_cons.mpr ⟨lw_p29, List.forall_mem_cons.mpr ⟨lw_p30, List.forall_mem_cons.mpr ⟨lw_p31, fun _ h => absurd h List.not_mem_nil⟩⟩⟩⟩⟩⟩⟩⟩⟩⟩⟩⟩⟩⟩⟩⟩
theorem lw_p32 : lw_okq (⟨"ChairTooFewModel", "hasteOf", "(II)I"⟩, 44) := ⟨⟨by decide +kernel, by decide +kernel⟩, List.mem_of_getElem? (i := 892) (by decide +kernel), List.mem_of_getElem? (i := 1101) (by decide +kernel), List.mem_of_getElem? (i := 1102) (by decide +kernel)⟩
theorem lw_p33 : lw_okq (⟨"ChairTooFewModel", "far", "(II)I"⟩, 44) := ⟨⟨by decide +kernel, by decide +kernel⟩, List.mem_of_getElem? (i := 892) (by decide +kernel), List.mem_of_getElem? (i := 1105) (by decide +kernel), List.mem_of_getElem? (i := 1106) (by decide +kernel)⟩
theorem lw_p34 : lw_okq (⟨"ChairTooFewModel", "statement", "()Z"⟩, 44) := ⟨⟨by decide +kernel, by decide +kernel⟩, List.mem_of_getElem? (i := 892) (by decide +kernel), List.mem_of_getElem? (i := 1118) (by decide +kernel), List.mem_of_getElem? (i := 1119) (by decide +kernel)⟩
theorem lw_p35 : lw_okq (⟨"ChairTooFewModel", "sign", "()I"⟩, 44) := ⟨⟨by decide +kernel, by decide +kernel⟩, List.mem_of_getElem? (i := 892) (by decide +kernel), List.mem_of_getElem? (i := 1122) (by decide +kernel), List.mem_of_getElem? (i := 1123) (by decide +kernel)⟩
theorem lw_p36 : lw_okq (⟨"ChairTooFewModel", "number", "(I)I"⟩, 44) := ⟨⟨by decide +kernel, by decide +kernel⟩, List.mem_of_getElem? (i := 892) (by decide +kernel), List.mem_of_getElem? (i := 1126) (by decide +kernel), List.mem_of_getElem? (i := 1127) (by decide +kernel)⟩
theorem lw_p37 : lw_okq (⟨"ChairTooFewModel", "takes", "(I)Z"⟩, 44) := ⟨⟨by decide +kernel, by decide +kernel⟩, List.mem_of_getElem? (i := 892) (by decide +kernel), List.mem_of_getElem? (i := 1130) (by decide +kernel), List.mem_of_getElem? (i := 1131) (by decide +kernel)⟩
theorem lw_p38 : lw_okq (⟨"ChairTooFewModel", "passesAll", "(IZ)V"⟩, 44) := ⟨⟨by decide +kernel, by decide +kernel⟩, List.mem_of_getElem? (i := 892) (by decide +kernel), List.mem_of_getElem? (i := 1134) (by decide +kernel), List.mem_of_getElem? (i := 1135) (by decide +kernel)⟩
theorem lw_p39 : lw_okq (⟨"ChairTooFewModel", "passes", "([I)V"⟩, 44) := ⟨⟨by decide +kernel, by decide +kernel⟩, List.mem_of_getElem? (i := 892) (by decide +kernel), List.mem_of_getElem? (i := 1138) (by decide +kernel), List.mem_of_getElem? (i := 1139) (by decide +kernel)⟩
theorem lw_p40 : lw_okq (⟨"ChairTooFewModel", "passOne", "(I)I"⟩, 44) := ⟨⟨by decide +kernel, by decide +kernel⟩, List.mem_of_getElem? (i := 892) (by decide +kernel), List.mem_of_getElem? (i := 1142) (by decide +kernel), List.mem_of_getElem? (i := 1143) (by decide +kernel)⟩
theorem lw_p41 : lw_okq (⟨"ChairTooFewModel", "comes", "(I)Z"⟩, 44) := ⟨⟨by decide +kernel, by decide +kernel⟩, List.mem_of_getElem? (i := 892) (by decide +kernel), List.mem_of_getElem? (i := 1146) (by decide +kernel), List.mem_of_getElem? (i := 1147) (by decide +kernel)⟩
theorem lw_p42 : lw_okq (⟨"ChairTooFewModel", "isOver", "()Z"⟩, 44) := ⟨⟨by decide +kernel, by decide +kernel⟩, List.mem_of_getElem? (i := 892) (by decide +kernel), List.mem_of_getElem? (i := 1154) (by decide +kernel), List.mem_of_getElem? (i := 1155) (by decide +kernel)⟩
theorem lw_p43 : lw_okq (⟨"ChairTooFewModel", "ins", "()I"⟩, 44) := ⟨⟨by decide +kernel, by decide +kernel⟩, List.mem_of_getElem? (i := 892) (by decide +kernel), List.mem_of_getElem? (i := 1158) (by decide +kernel), List.mem_of_getElem? (i := 1159) (by decide +kernel)⟩
theorem lw_p44 : lw_okq (⟨"ChairTooFewModel", "goesOn", "()Z"⟩, 44) := ⟨⟨by decide +kernel, by decide +kernel⟩, List.mem_of_getElem? (i := 892) (by decide +kernel), List.mem_of_getElem? (i := 1162) (by decide +kernel), List.mem_of_getElem? (i := 1163) (by decide +kernel)⟩
theorem lw_p45 : lw_okq (⟨"ChairTooFewModel", "walks", "()V"⟩, 44) := ⟨⟨by decide +kernel, by decide +kernel⟩, List.mem_of_getElem? (i := 892) (by decide +kernel), List.mem_of_getElem? (i := 1166) (by decide +kernel), List.mem_of_getElem? (i := 1167) (by decide +kernel)⟩
theorem lw_p46 : lw_okq (⟨"ChairTooFewModel", "doesStop", "()Z"⟩, 44) := ⟨⟨by decide +kernel, by decide +kernel⟩, List.mem_of_getElem? (i := 892) (by decide +kernel), List.mem_of_getElem? (i := 1170) (by decide +kernel), List.mem_of_getElem? (i := 1171) (by decide +kernel)⟩
theorem lw_p47 : lw_okq (⟨"ChairTooFewModel", "stops", "()I"⟩, 44) := ⟨⟨by decide +kernel, by decide +kernel⟩, List.mem_of_getElem? (i := 892) (by decide +kernel), List.mem_of_getElem? (i := 1177) (by decide +kernel), List.mem_of_getElem? (i := 1178) (by decide +kernel)⟩
def lw_privs_3 : List (MethodName × Nat) := [(⟨"ChairTooFewModel", "hasteOf", "(II)I"⟩, 44), (⟨"ChairTooFewModel", "far", "(II)I"⟩, 44), (⟨"ChairTooFewModel", "statement", "()Z"⟩, 44), (⟨"ChairTooFewModel", "sign", "()I"⟩, 44), (⟨"ChairTooFewModel", "number", "(I)I"⟩, 44), (⟨"ChairTooFewModel", "takes", "(I)Z"⟩, 44), (⟨"ChairTooFewModel", "passesAll", "(IZ)V"⟩, 44), (⟨"ChairTooFewModel", "passes", "([I)V"⟩, 44), (⟨"ChairTooFewModel", "passOne", "(I)I"⟩, 44), (⟨"ChairTooFewModel", "comes", "(I)Z"⟩, 44), (⟨"ChairTooFewModel", "isOver", "()Z"⟩, 44), (⟨"ChairTooFewModel", "ins", "()I"⟩, 44), (⟨"ChairTooFewModel", "goesOn", "()Z"⟩, 44), (⟨"ChairTooFewModel", "walks", "()V"⟩, 44), (⟨"ChairTooFewModel", "doesStop", "()Z"⟩, 44), (⟨"ChairTooFewModel", "stops", "()I"⟩, 44)]
theorem lw_r3 : ∀ q ∈ lw_privs_3, lw_okq q := List.forall_mem_cons.mpr ⟨lw_p32, List.forall_mem_cons.mpr ⟨lw_p33, List.forall_mem_cons.mpr ⟨lw_p34, List.forall_mem_cons.mpr ⟨lw_p35, List.forall_mem_cons.mpr ⟨lw_p36, List.forall_mem_cons.mpr ⟨lw_p37, List.forall_mem_cons.mpr ⟨lw_p38, List.forall_mem_cons.mpr ⟨lw_p39, List.forall_mem_cons.mpr ⟨lw_p40, List.forall_mem_cons.mpr ⟨lw_p41, List.forall_mem_cons.mpr ⟨lw_p42, List.forall_mem_cons.mpr ⟨lw_p43, List.forall_mem_cons.mpr ⟨lw_p44, List.forall_mem_cons.mpr ⟨lw_p45, List.forall_mem_cons.mpr ⟨lw_p46, List.forall_mem_cons.mpr ⟨lw_p47, fun _ h => absurd h List.not_mem_nil⟩⟩⟩⟩⟩⟩⟩⟩⟩⟩⟩⟩⟩⟩⟩⟩
theorem lw_p48 : lw_okq (⟨"ChairTooFewModel", "sit", "()V"⟩, 44) := ⟨⟨by decide +kernel, by decide +kernel⟩, List.mem_of_getElem? (i := 892) (by decide +kernel), List.mem_of_getElem? (i := 1181) (by decide +kernel), List.mem_of_getElem? (i := 1182) (by decide +kernel)⟩
theorem lw_p49 : lw_okq (⟨"ChairTooFewModel", "seatsOne", "()Z"⟩, 44) := ⟨⟨by decide +kernel, by decide +kernel⟩, List.mem_of_getElem? (i := 892) (by decide +kernel), List.mem_of_getElem? (i := 1185) (by decide +kernel), List.mem_of_getElem? (i := 1186) (by decide +kernel)⟩
theorem lw_p50 : lw_okq (⟨"ChairTooFewModel", "isSeat", "(I)Z"⟩, 44) := ⟨⟨by decide +kernel, by decide +kernel⟩, List.mem_of_getElem? (i := 892) (by decide +kernel), List.mem_of_getElem? (i := 1189) (by decide +kernel), List.mem_of_getElem? (i := 1190) (by decide +kernel)⟩
theorem lw_p51 : lw_okq (⟨"ChairTooFewModel", "mayReach", "(II)Z"⟩, 44) := ⟨⟨by decide +kernel, by decide +kernel⟩, List.mem_of_getElem? (i := 892) (by decide +kernel), List.mem_of_getElem? (i := 1193) (by decide +kernel), List.mem_of_getElem? (i := 1194) (by decide +kernel)⟩
theorem lw_p52 : lw_okq (⟨"ChairTooFewModel", "judges", "(I)V"⟩, 44) := ⟨⟨by decide +kernel, by decide +kernel⟩, List.mem_of_getElem? (i := 892) (by decide +kernel), List.mem_of_getElem? (i := 1197) (by decide +kernel), List.mem_of_getElem? (i := 1198) (by decide +kernel)⟩
theorem lw_p53 : lw_okq (⟨"ChairTooFewModel", "goer", "()I"⟩, 44) := ⟨⟨by decide +kernel, by decide +kernel⟩, List.mem_of_getElem? (i := 892) (by decide +kernel), List.mem_of_getElem? (i := 1201) (by decide +kernel), List.mem_of_getElem? (i := 1202) (by decide +kernel)⟩
theorem lw_p54 : lw_okq (⟨"ChairTooFewModel", "nearest", "(I)I"⟩, 44) := ⟨⟨by decide +kernel, by decide +kernel⟩, List.mem_of_getElem? (i := 892) (by decide +kernel), List.mem_of_getElem? (i := 1205) (by decide +kernel), List.mem_of_getElem? (i := 1206) (by decide +kernel)⟩
theorem lw_p55 : lw_okq (⟨"ChairTooFewModel", "leaver", "()I"⟩, 44) := ⟨⟨by decide +kernel, by decide +kernel⟩, List.mem_of_getElem? (i := 892) (by decide +kernel), List.mem_of_getElem? (i := 1209) (by decide +kernel), List.mem_of_getElem? (i := 1210) (by decide +kernel)⟩
theorem lw_p56 : lw_okq (⟨"ChairTooFewModel", "ways", "(I)I"⟩, 44) := ⟨⟨by decide +kernel, by decide +kernel⟩, List.mem_of_getElem? (i := 892) (by decide +kernel), List.mem_of_getElem? (i := 1213) (by decide +kernel), List.mem_of_getElem? (i := 1214) (by decide +kernel)⟩
theorem lw_p57 : lw_okq (⟨"ChairTooFewModel", "isThere", "(I)Z"⟩, 44) := ⟨⟨by decide +kernel, by decide +kernel⟩, List.mem_of_getElem? (i := 892) (by decide +kernel), List.mem_of_getElem? (i := 1225) (by decide +kernel), List.mem_of_getElem? (i := 1226) (by decide +kernel)⟩
theorem lw_p58 : lw_okq (⟨"ChairTooFewModel", "notOdds", "(II)I"⟩, 44) := ⟨⟨by decide +kernel, by decide +kernel⟩, List.mem_of_getElem? (i := 892) (by decide +kernel), List.mem_of_getElem? (i := 1237) (by decide +kernel), List.mem_of_getElem? (i := 1238) (by decide +kernel)⟩
theorem lw_p59 : lw_okq (⟨"ChairTooFewModel", "oddsOf", "(II)I"⟩, 44) := ⟨⟨by decide +kernel, by decide +kernel⟩, List.mem_of_getElem? (i := 892) (by decide +kernel), List.mem_of_getElem? (i := 1241) (by decide +kernel), List.mem_of_getElem? (i := 1242) (by decide +kernel)⟩
theorem lw_p60 : lw_okq (⟨"ChairTooFewModel", "findOdds", "(III)V"⟩, 44) := ⟨⟨by decide +kernel, by decide +kernel⟩, List.mem_of_getElem? (i := 892) (by decide +kernel), List.mem_of_getElem? (i := 1245) (by decide +kernel), List.mem_of_getElem? (i := 1246) (by decide +kernel)⟩
theorem lw_p61 : lw_okq (⟨"ChairTooFewModel", "oddsBy", "(III)I"⟩, 44) := ⟨⟨by decide +kernel, by decide +kernel⟩, List.mem_of_getElem? (i := 892) (by decide +kernel), List.mem_of_getElem? (i := 1257) (by decide +kernel), List.mem_of_getElem? (i := 1258) (by decide +kernel)⟩
theorem lw_p62 : lw_okq (⟨"ChairTooFewModel", "partyBy", "(III)V"⟩, 44) := ⟨⟨by decide +kernel, by decide +kernel⟩, List.mem_of_getElem? (i := 892) (by decide +kernel), List.mem_of_getElem? (i := 1269) (by decide +kernel), List.mem_of_getElem? (i := 1270) (by decide +kernel)⟩
theorem lw_p63 : lw_okq (⟨"ChairTooFewModel", "plays", "()V"⟩, 44) := ⟨⟨by decide +kernel, by decide +kernel⟩, List.mem_of_getElem? (i := 892) (by decide +kernel), List.mem_of_getElem? (i := 1273) (by decide +kernel), List.mem_of_getElem? (i := 1274) (by decide +kernel)⟩
def lw_privs_4 : List (MethodName × Nat) := [(⟨"ChairTooFewModel", "sit", "()V"⟩, 44), (⟨"ChairTooFewModel", "seatsOne", "()Z"⟩, 44), (⟨"ChairTooFewModel", "isSeat", "(I)Z"⟩, 44), (⟨"ChairTooFewModel", "mayReach", "(II)Z"⟩, 44), (⟨"ChairTooFewModel", "judges", "(I)V"⟩, 44), (⟨"ChairTooFewModel", "goer", "()I"⟩, 44), (⟨"ChairTooFewModel", "nearest", "(I)I"⟩, 44), (⟨"ChairTooFewModel", "leaver", "()I"⟩, 44), (⟨"ChairTooFewModel", "ways", "(I)I"⟩, 44), (⟨"ChairTooFewModel", "isThere", "(I)Z"⟩, 44), (⟨"ChairTooFewModel", "notOdds", "(II)I"⟩, 44), (⟨"ChairTooFewModel", "oddsOf", "(II)I"⟩, 44), (⟨"ChairTooFewModel", "findOdds", "(III)V"⟩, 44), (⟨"ChairTooFewModel", "oddsBy", "(III)I"⟩, 44), (⟨"ChairTooFewModel", "partyBy", "(III)V"⟩, 44), (⟨"ChairTooFewModel", "plays", "()V"⟩, 44)]
theorem lw_r4 : ∀ q ∈ lw_privs_4, lw_okq q := List.forall_mem_cons.mpr ⟨lw_p48, List.forall_mem_cons.mpr ⟨lw_p49, List.forall_mem_cons.mpr ⟨lw_p50, List.forall_mem_cons.mpr ⟨lw_p51, List.forall_mem_cons.mpr ⟨lw_p52, List.forall_mem_cons.mpr ⟨lw_p53, List.forall_mem_cons.mpr ⟨lw_p54, List.forall_mem_cons.mpr ⟨lw_p55, List.forall_mem_cons.mpr ⟨lw_p56, List.forall_mem_cons.mpr ⟨lw_p57, List.forall_mem_cons.mpr ⟨lw_p58, List.forall_mem_cons.mpr ⟨lw_p59, List.forall_mem_cons.mpr ⟨lw_p60, List.forall_mem_cons.mpr ⟨lw_p61, List.forall_mem_cons.mpr ⟨lw_p62, List.forall_mem_cons.mpr ⟨lw_p63, fun _ h => absurd h List.not_mem_nil⟩⟩⟩⟩⟩⟩⟩⟩⟩⟩⟩⟩⟩⟩⟩⟩
def lw_privs : List (MethodName × Nat) := lw_privs_1 ++ (lw_privs_2 ++ (lw_privs_3 ++ (lw_privs_4)))
def lw_tbl : List Cond := k2_sels lw_privs ++ tables_1
theorem lw_privs_ok : ∀ q ∈ lw_privs, lw_okq q := by
  show ∀ q ∈ lw_privs_1 ++ (lw_privs_2 ++ (lw_privs_3 ++ (lw_privs_4))), lw_okq q
  exact List.forall_mem_append.mpr ⟨lw_r1, List.forall_mem_append.mpr ⟨lw_r2, List.forall_mem_append.mpr ⟨lw_r3, lw_r4⟩⟩⟩
-- ===== end of PART A; then your names; then what follows =====
/-! ===== BEGIN words of one list among another's, by their places ===== -/
theorem goodIn_r {big : List Cond} (ws : List Cond) (ps : List Nat) (hp : ws = ps.filterMap (fun i => big[i]?)) (h : ws.all goodWord = true) : GoodIn big ws := by
  intro w hw
  have h1 := List.all_eq_true.mp h w hw
  rw [hp] at hw
  obtain ⟨i, -, hi⟩ := List.mem_filterMap.mp hw
  have hm : w ∈ big := by first | exact List.mem_of_getElem? hi | exact List.getElem?_mem hi
  exact ⟨hm, good_of_word h1⟩
theorem goodIn_app {big a b : List Cond} (ha : GoodIn big a) (hb : GoodIn big b) : GoodIn big (a ++ b) := fun w h => (List.mem_append.mp h).elim (ha w) (hb w)
theorem goodIn_ca {big a b : List Cond} {c : Cond} (ha : GoodIn big (c :: a)) (hb : GoodIn big b) : GoodIn big (c :: (a ++ b)) := fun w h => (List.mem_cons.mp h).elim (fun e => ha w (List.mem_cons.mpr (Or.inl e))) (fun h => (List.mem_append.mp h).elim (fun h => ha w (List.mem_cons.mpr (Or.inr h))) (hb w))
theorem goodIn_sub {big ws : List Cond} (hm : ∀ w ∈ ws, w ∈ big) (h : ws.all goodWord = true) : GoodIn big ws := fun w hw => ⟨hm w hw, good_of_word (List.all_eq_true.mp h w hw)⟩
/-! ===== END ===== -/

/-! ===== BEGIN printed: names, fields, word lists, decode rows ===== -/
def RX0 : String := "ChairTooFew$Mind"
def TX0 : u_T := fun k => match k with
  | 0 => ("ChairTooFew$Mind", "real", "LChairTooFew$Party;", true)
  | 1 => ("ChairTooFew$Mind", "thought", "LChairTooFew$Party;", true)
  | 2 => ("ChairTooFew$Mind", "times", "[I", true)
  | 3 => ("ChairTooFew$Mind", "tenthsAhead", "I", false)
  | _ => ("ChairTooFew$Mind", "roundsAhead", "I", false)
def tyX0 : Nat → FieldType := fun k => match k with
  | 0 => .object "ChairTooFew$Party"
  | 1 => .object "ChairTooFew$Party"
  | 2 => .array .int
  | 3 => .int
  | _ => .int
abbrev wsX00 : List Cond := u_ws RX0 TX0 5
theorem nmX0 : ∀ a, a < 5 → ∀ b, b < 5 → a ≠ b → (TX0 a).2.1 ≠ (TX0 b).2.1 := by decide +kernel
theorem tyX0_ok : ∀ k, k < 5 → parseFieldDescriptor (TX0 k).2.2.1 = some (tyX0 k) := by decide +kernel
abbrev cX0_init : ByteArray := prog_2_method_1_code
def yX0_init : MethodName := ⟨RX0, "<init>", "()V"⟩
abbrev cX0_readParty : ByteArray := prog_2_method_2_code
def yX0_readParty : MethodName := ⟨RX0, "readParty", "(LChairTooFew$Text;)I"⟩
abbrev cX0_oddsAt : ByteArray := prog_2_method_3_code
def yX0_oddsAt : MethodName := ⟨RX0, "oddsAt", "(III)I"⟩
abbrev cX0_unfairness : ByteArray := prog_2_method_4_code
def yX0_unfairness : MethodName := ⟨RX0, "unfairness", "(I)I"⟩
abbrev cX0_slowOfGreatestOdds : ByteArray := prog_2_method_5_code
def yX0_slowOfGreatestOdds : MethodName := ⟨RX0, "slowOfGreatestOdds", "(II)I"⟩
abbrev cX0_gainOfCheating : ByteArray := prog_2_method_6_code
def yX0_gainOfCheating : MethodName := ⟨RX0, "gainOfCheating", "(II)I"⟩
abbrev cX0_partyAhead : ByteArray := prog_2_method_7_code
def yX0_partyAhead : MethodName := ⟨RX0, "partyAhead", "(I)I"⟩
abbrev cX0_timesWinner : ByteArray := prog_2_method_8_code
def yX0_timesWinner : MethodName := ⟨RX0, "timesWinner", "(III)I"⟩
abbrev cX0_formOfMostWinners : ByteArray := prog_2_method_9_code
def yX0_formOfMostWinners : MethodName := ⟨RX0, "formOfMostWinners", "(II)I"⟩
abbrev cX0_kindOfFewestTenths : ByteArray := prog_2_method_10_code
def yX0_kindOfFewestTenths : MethodName := ⟨RX0, "kindOfFewestTenths", "()I"⟩
abbrev cX0_teamGain : ByteArray := prog_2_method_11_code
def yX0_teamGain : MethodName := ⟨RX0, "teamGain", "(III)I"⟩
abbrev cX0_sitsWhenHeld : ByteArray := prog_2_method_12_code
def yX0_sitsWhenHeld : MethodName := ⟨RX0, "sitsWhenHeld", "(III)I"⟩
abbrev cX0_firstWrong : ByteArray := prog_2_method_13_code
def yX0_firstWrong : MethodName := ⟨RX0, "firstWrong", "(ILChairTooFew$Numbers;)I"⟩
abbrev cX0_seatBehindTenth : ByteArray := prog_2_method_14_code
def yX0_seatBehindTenth : MethodName := ⟨RX0, "seatBehindTenth", "()V"⟩
abbrev cX0_countSeatedTimes : ByteArray := prog_2_method_15_code
def yX0_countSeatedTimes : MethodName := ⟨RX0, "countSeatedTimes", "(I)V"⟩
abbrev cX0_playOut : ByteArray := prog_2_method_16_code
def yX0_playOut : MethodName := ⟨RX0, "playOut", "()V"⟩
abbrev cX0_bitOf : ByteArray := prog_2_method_17_code
def yX0_bitOf : MethodName := ⟨RX0, "bitOf", "(I)I"⟩
def RX1 : String := "ChairTooFew$Numbers"
def TX1 : u_T := fun k => match k with
  | 0 => ("ChairTooFew$Numbers", "numbers", "[I", true)
  | _ => ("ChairTooFew$Numbers", "length", "I", false)
def tyX1 : Nat → FieldType := fun k => match k with
  | 0 => .array .int
  | _ => .int
abbrev wsX10 : List Cond := u_ws RX1 TX1 2
theorem nmX1 : ∀ a, a < 2 → ∀ b, b < 2 → a ≠ b → (TX1 a).2.1 ≠ (TX1 b).2.1 := by decide +kernel
theorem tyX1_ok : ∀ k, k < 2 → parseFieldDescriptor (TX1 k).2.2.1 = some (tyX1 k) := by decide +kernel
abbrev cX1_init : ByteArray := prog_3_method_1_code
def yX1_init : MethodName := ⟨RX1, "<init>", "(I)V"⟩
abbrev cX1_isFull : ByteArray := prog_3_method_2_code
def yX1_isFull : MethodName := ⟨RX1, "isFull", "()Z"⟩
abbrev cX1_append : ByteArray := prog_3_method_3_code
def yX1_append : MethodName := ⟨RX1, "append", "(I)I"⟩
abbrev cX1_at : ByteArray := prog_3_method_4_code
def yX1_at : MethodName := ⟨RX1, "at", "(I)I"⟩
abbrev cX1_hundredthsUpTo : ByteArray := prog_3_method_5_code
def yX1_hundredthsUpTo : MethodName := ⟨RX1, "hundredthsUpTo", "(I)I"⟩
def RX2 : String := "ChairTooFew$Party"
def TX2 : u_T := fun k => match k with
  | 0 => ("ChairTooFew$Party", "ring", "LChairTooFew$Ring;", true)
  | 1 => ("ChairTooFew$Party", "player", "LChairTooFew$Player;", true)
  | 2 => ("ChairTooFew$Party", "seating", "LChairTooFew$Seating;", true)
  | 3 => ("ChairTooFew$Party", "walkers", "[LChairTooFew$Walker;", true)
  | 4 => ("ChairTooFew$Party", "stoodOn", "[Z", true)
  | 5 => ("ChairTooFew$Party", "walkerCount", "I", false)
  | 6 => ("ChairTooFew$Party", "form", "I", false)
  | 7 => ("ChairTooFew$Party", "tenths", "I", false)
  | 8 => ("ChairTooFew$Party", "rounds", "I", false)
  | _ => ("ChairTooFew$Party", "ended", "Z", false)
def tyX2 : Nat → FieldType := fun k => match k with
  | 0 => .object "ChairTooFew$Ring"
  | 1 => .object "ChairTooFew$Player"
  | 2 => .object "ChairTooFew$Seating"
  | 3 => .array (.object "ChairTooFew$Walker")
  | 4 => .array .boolean
  | 5 => .int
  | 6 => .int
  | 7 => .int
  | 8 => .int
  | _ => .boolean
abbrev wsX20 : List Cond := u_ws RX2 TX2 10
theorem nmX2 : ∀ a, a < 10 → ∀ b, b < 10 → a ≠ b → (TX2 a).2.1 ≠ (TX2 b).2.1 := by decide +kernel
theorem tyX2_ok : ∀ k, k < 10 → parseFieldDescriptor (TX2 k).2.2.1 = some (tyX2 k) := by decide +kernel
abbrev cX2_init : ByteArray := prog_4_method_1_code
def yX2_init : MethodName := ⟨RX2, "<init>", "()V"⟩
abbrev cX2_become : ByteArray := prog_4_method_2_code
def yX2_become : MethodName := ⟨RX2, "become", "(LChairTooFew$Party;)V"⟩
abbrev cX2_knows : ByteArray := prog_4_method_3_code
def yX2_knows : MethodName := ⟨RX2, "knows", "(I)Z"⟩
abbrev cX2_knowsIn : ByteArray := prog_4_method_4_code
def yX2_knowsIn : MethodName := ⟨RX2, "knowsIn", "(I)Z"⟩
abbrev cX2_countIn : ByteArray := prog_4_method_5_code
def yX2_countIn : MethodName := ⟨RX2, "countIn", "()I"⟩
abbrev cX2_canGoOn : ByteArray := prog_4_method_6_code
def yX2_canGoOn : MethodName := ⟨RX2, "canGoOn", "()Z"⟩
abbrev cX2_isStoodOn : ByteArray := prog_4_method_7_code
def yX2_isStoodOn : MethodName := ⟨RX2, "isStoodOn", "(I)Z"⟩
abbrev cX2_mark : ByteArray := prog_4_method_8_code
def yX2_mark : MethodName := ⟨RX2, "mark", "(IZ)V"⟩
abbrev cX2_whyNoChair : ByteArray := prog_4_method_9_code
def yX2_whyNoChair : MethodName := ⟨RX2, "whyNoChair", "(I)I"⟩
abbrev cX2_addChair : ByteArray := prog_4_method_10_code
def yX2_addChair : MethodName := ⟨RX2, "addChair", "(I)I"⟩
abbrev cX2_whyNoWalker : ByteArray := prog_4_method_11_code
def yX2_whyNoWalker : MethodName := ⟨RX2, "whyNoWalker", "(III)I"⟩
abbrev cX2_addWalker : ByteArray := prog_4_method_12_code
def yX2_addWalker : MethodName := ⟨RX2, "addWalker", "(III)I"⟩
abbrev cX2_walkAll : ByteArray := prog_4_method_13_code
def yX2_walkAll : MethodName := ⟨RX2, "walkAll", "()V"⟩
abbrev cX2_walk : ByteArray := prog_4_method_14_code
def yX2_walk : MethodName := ⟨RX2, "walk", "(LChairTooFew$Walker;)V"⟩
abbrev cX2_passTenth : ByteArray := prog_4_method_15_code
def yX2_passTenth : MethodName := ⟨RX2, "passTenth", "()Z"⟩
abbrev cX2_isLikedAtChair : ByteArray := prog_4_method_16_code
def yX2_isLikedAtChair : MethodName := ⟨RX2, "isLikedAtChair", "()Z"⟩
abbrev cX2_endRound : ByteArray := prog_4_method_17_code
def yX2_endRound : MethodName := ⟨RX2, "endRound", "()I"⟩
abbrev cX2_losesChair : ByteArray := prog_4_method_18_code
def yX2_losesChair : MethodName := ⟨RX2, "losesChair", "(I)Z"⟩
abbrev cX2_whoGoes : ByteArray := prog_4_method_19_code
def yX2_whoGoes : MethodName := ⟨RX2, "whoGoes", "()I"⟩
abbrev cX2_winner : ByteArray := prog_4_method_20_code
def yX2_winner : MethodName := ⟨RX2, "winner", "()I"⟩
def RX3 : String := "ChairTooFew$Player"
def TX3 : u_T := fun k => match k with
  | 0 => ("ChairTooFew$Player", "kind", "I", false)
  | 1 => ("ChairTooFew$Player", "figure", "I", false)
  | _ => ("ChairTooFew$Player", "z", "I", false)
def tyX3 : Nat → FieldType := fun k => match k with
  | 0 => .int
  | 1 => .int
  | _ => .int
abbrev wsX30 : List Cond := u_ws RX3 TX3 3
theorem nmX3 : ∀ a, a < 3 → ∀ b, b < 3 → a ≠ b → (TX3 a).2.1 ≠ (TX3 b).2.1 := by decide +kernel
theorem tyX3_ok : ∀ k, k < 3 → parseFieldDescriptor (TX3 k).2.2.1 = some (tyX3 k) := by decide +kernel
abbrev cX3_init : ByteArray := prog_5_method_1_code
def yX3_init : MethodName := ⟨RX3, "<init>", "()V"⟩
abbrev cX3_become : ByteArray := prog_5_method_2_code
def yX3_become : MethodName := ⟨RX3, "become", "(LChairTooFew$Player;)V"⟩
abbrev cX3_whyNot : ByteArray := prog_5_method_3_code
def yX3_whyNot : MethodName := ⟨RX3, "whyNot", "(II)I"⟩
abbrev cX3_drawAgain : ByteArray := prog_5_method_4_code
def yX3_drawAgain : MethodName := ⟨RX3, "drawAgain", "()I"⟩
abbrev cX3_stopsIn : ByteArray := prog_5_method_5_code
def yX3_stopsIn : MethodName := ⟨RX3, "stopsIn", "(IIZ)Z"⟩
abbrev cX3_couldStop : ByteArray := prog_5_method_6_code
def yX3_couldStop : MethodName := ⟨RX3, "couldStop", "(II)Z"⟩
def RX4 : String := "ChairTooFew$Ring"
def TX4 : u_T := fun k => match k with
  | 0 => ("ChairTooFew$Ring", "places", "I", false)
  | 1 => ("ChairTooFew$Ring", "chairs", "I", false)
  | 2 => ("ChairTooFew$Ring", "chairPlaces", "[I", true)
  | _ => ("ChairTooFew$Ring", "taken", "[Z", true)
def tyX4 : Nat → FieldType := fun k => match k with
  | 0 => .int
  | 1 => .int
  | 2 => .array .int
  | _ => .array .boolean
abbrev wsX40 : List Cond := u_ws RX4 TX4 4
theorem nmX4 : ∀ a, a < 4 → ∀ b, b < 4 → a ≠ b → (TX4 a).2.1 ≠ (TX4 b).2.1 := by decide +kernel
theorem tyX4_ok : ∀ k, k < 4 → parseFieldDescriptor (TX4 k).2.2.1 = some (tyX4 k) := by decide +kernel
abbrev cX4_init : ByteArray := prog_6_method_1_code
def yX4_init : MethodName := ⟨RX4, "<init>", "()V"⟩
abbrev cX4_become : ByteArray := prog_6_method_2_code
def yX4_become : MethodName := ⟨RX4, "become", "(LChairTooFew$Ring;)V"⟩
abbrev cX4_isPlace : ByteArray := prog_6_method_3_code
def yX4_isPlace : MethodName := ⟨RX4, "isPlace", "(I)Z"⟩
abbrev cX4_hasChair : ByteArray := prog_6_method_4_code
def yX4_hasChair : MethodName := ⟨RX4, "hasChair", "(I)Z"⟩
abbrev cX4_placeOfChair : ByteArray := prog_6_method_5_code
def yX4_placeOfChair : MethodName := ⟨RX4, "placeOfChair", "(I)I"⟩
abbrev cX4_far : ByteArray := prog_6_method_6_code
def yX4_far : MethodName := ⟨RX4, "far", "(II)I"⟩
abbrev cX4_farFromChairs : ByteArray := prog_6_method_7_code
def yX4_farFromChairs : MethodName := ⟨RX4, "farFromChairs", "(I)I"⟩
abbrev cX4_putChair : ByteArray := prog_6_method_8_code
def yX4_putChair : MethodName := ⟨RX4, "putChair", "(I)V"⟩
abbrev cX4_takeChair : ByteArray := prog_6_method_9_code
def yX4_takeChair : MethodName := ⟨RX4, "takeChair", "(I)V"⟩
abbrev cX4_leavingPlace : ByteArray := prog_6_method_10_code
def yX4_leavingPlace : MethodName := ⟨RX4, "leavingPlace", "(I)I"⟩
abbrev cX4_mostCrowdedChair : ByteArray := prog_6_method_11_code
def yX4_mostCrowdedChair : MethodName := ⟨RX4, "mostCrowdedChair", "()I"⟩
abbrev cX4_wayOn : ByteArray := prog_6_method_12_code
def yX4_wayOn : MethodName := ⟨RX4, "wayOn", "(II)I"⟩
def RX5 : String := "ChairTooFew$Seating"
def TX5 : u_T := fun k => match k with
  | 0 => ("ChairTooFew$Seating", "seats", "[I", true)
  | 1 => ("ChairTooFew$Seating", "hastes", "[I", true)
  | 2 => ("ChairTooFew$Seating", "free", "[Z", true)
  | 3 => ("ChairTooFew$Seating", "walkers", "I", false)
  | _ => ("ChairTooFew$Seating", "chairs", "I", false)
def tyX5 : Nat → FieldType := fun k => match k with
  | 0 => .array .int
  | 1 => .array .int
  | 2 => .array .boolean
  | 3 => .int
  | _ => .int
abbrev wsX50 : List Cond := u_ws RX5 TX5 5
theorem nmX5 : ∀ a, a < 5 → ∀ b, b < 5 → a ≠ b → (TX5 a).2.1 ≠ (TX5 b).2.1 := by decide +kernel
theorem tyX5_ok : ∀ k, k < 5 → parseFieldDescriptor (TX5 k).2.2.1 = some (tyX5 k) := by decide +kernel
abbrev cX5_init : ByteArray := prog_7_method_1_code
def yX5_init : MethodName := ⟨RX5, "<init>", "()V"⟩
abbrev cX5_seatAll : ByteArray := prog_7_method_2_code
def yX5_seatAll : MethodName := ⟨RX5, "seatAll", "(LChairTooFew$Party;)V"⟩
abbrev cX5_isSeated : ByteArray := prog_7_method_3_code
def yX5_isSeated : MethodName := ⟨RX5, "isSeated", "(I)Z"⟩
abbrev cX5_placeOf : ByteArray := prog_7_method_4_code
def yX5_placeOf : MethodName := ⟨RX5, "placeOf", "(ILChairTooFew$Ring;)I"⟩
abbrev cX5_measure : ByteArray := prog_7_method_5_code
def yX5_measure : MethodName := ⟨RX5, "measure", "(LChairTooFew$Party;)V"⟩
abbrev cX5_seatLeastHaste : ByteArray := prog_7_method_6_code
def yX5_seatLeastHaste : MethodName := ⟨RX5, "seatLeastHaste", "()Z"⟩
abbrev cX5_giveWay : ByteArray := prog_7_method_7_code
def yX5_giveWay : MethodName := ⟨RX5, "giveWay", "(I)V"⟩
def RX6 : String := "ChairTooFew$Text"
def TX6 : u_T := fun k => match k with
  | 0 => ("ChairTooFew$Text", "bytes", "[B", true)
  | 1 => ("ChairTooFew$Text", "values", "[I", true)
  | 2 => ("ChairTooFew$Text", "at", "I", false)
  | 3 => ("ChairTooFew$Text", "used", "I", false)
  | 4 => ("ChairTooFew$Text", "length", "I", false)
  | _ => ("ChairTooFew$Text", "statements", "I", false)
def tyX6 : Nat → FieldType := fun k => match k with
  | 0 => .array .byte
  | 1 => .array .int
  | 2 => .int
  | 3 => .int
  | 4 => .int
  | _ => .int
abbrev wsX60 : List Cond := u_ws RX6 TX6 6
theorem nmX6 : ∀ a, a < 6 → ∀ b, b < 6 → a ≠ b → (TX6 a).2.1 ≠ (TX6 b).2.1 := by decide +kernel
theorem tyX6_ok : ∀ k, k < 6 → parseFieldDescriptor (TX6 k).2.2.1 = some (tyX6 k) := by decide +kernel
abbrev cX6_init : ByteArray := prog_8_method_1_code
def yX6_init : MethodName := ⟨RX6, "<init>", "()V"⟩
abbrev cX6_append : ByteArray := prog_8_method_2_code
def yX6_append : MethodName := ⟨RX6, "append", "(IJ)V"⟩
abbrev cX6_firstMisfit : ByteArray := prog_8_method_3_code
def yX6_firstMisfit : MethodName := ⟨RX6, "firstMisfit", "()I"⟩
abbrev cX6_firstImpossible : ByteArray := prog_8_method_4_code
def yX6_firstImpossible : MethodName := ⟨RX6, "firstImpossible", "(LChairTooFew$Party;)I"⟩
abbrev cX6_begin : ByteArray := prog_8_method_5_code
def yX6_begin : MethodName := ⟨RX6, "begin", "()V"⟩
abbrev cX6_readStatement : ByteArray := prog_8_method_6_code
def yX6_readStatement : MethodName := ⟨RX6, "readStatement", "()Z"⟩
abbrev cX6_shapeOf : ByteArray := prog_8_method_7_code
def yX6_shapeOf : MethodName := ⟨RX6, "shapeOf", "(I)Ljava/lang/String;"⟩
abbrev cX6_readPart : ByteArray := prog_8_method_8_code
def yX6_readPart : MethodName := ⟨RX6, "readPart", "(C)Z"⟩
abbrev cX6_readDigits : ByteArray := prog_8_method_9_code
def yX6_readDigits : MethodName := ⟨RX6, "readDigits", "(I)Z"⟩
abbrev cX6_signAhead : ByteArray := prog_8_method_10_code
def yX6_signAhead : MethodName := ⟨RX6, "signAhead", "()I"⟩
abbrev cX6_isDigit : ByteArray := prog_8_method_11_code
def yX6_isDigit : MethodName := ⟨RX6, "isDigit", "(I)Z"⟩
abbrev cX6_comesTrue : ByteArray := prog_8_method_12_code
def yX6_comesTrue : MethodName := ⟨RX6, "comesTrue", "(ILChairTooFew$Party;)Z"⟩
abbrev cX6_resize : ByteArray := prog_8_method_13_code
def yX6_resize : MethodName := ⟨RX6, "resize", "(LChairTooFew$Party;)Z"⟩
abbrev cX6_seatMore : ByteArray := prog_8_method_14_code
def yX6_seatMore : MethodName := ⟨RX6, "seatMore", "(LChairTooFew$Party;)Z"⟩
abbrev cX6_walkerMore : ByteArray := prog_8_method_15_code
def yX6_walkerMore : MethodName := ⟨RX6, "walkerMore", "(LChairTooFew$Party;)Z"⟩
abbrev cX6_newPlayer : ByteArray := prog_8_method_16_code
def yX6_newPlayer : MethodName := ⟨RX6, "newPlayer", "(LChairTooFew$Party;)Z"⟩
abbrev cX6_newForm : ByteArray := prog_8_method_17_code
def yX6_newForm : MethodName := ⟨RX6, "newForm", "(LChairTooFew$Party;)Z"⟩
def RX7 : String := "ChairTooFew$Walker"
def TX7 : u_T := fun k => match k with
  | 0 => ("ChairTooFew$Walker", "place", "I", false)
  | 1 => ("ChairTooFew$Walker", "parts", "I", false)
  | 2 => ("ChairTooFew$Walker", "in", "Z", false)
  | 3 => ("ChairTooFew$Walker", "kind", "I", false)
  | 4 => ("ChairTooFew$Walker", "fast", "I", false)
  | 5 => ("ChairTooFew$Walker", "slow", "I", false)
  | 6 => ("ChairTooFew$Walker", "reach", "I", false)
  | 7 => ("ChairTooFew$Walker", "size", "I", false)
  | _ => ("ChairTooFew$Walker", "manners", "I", false)
def tyX7 : Nat → FieldType := fun k => match k with
  | 0 => .int
  | 1 => .int
  | 2 => .boolean
  | 3 => .int
  | 4 => .int
  | 5 => .int
  | 6 => .int
  | 7 => .int
  | _ => .int
abbrev wsX70 : List Cond := u_ws RX7 TX7 9
theorem nmX7 : ∀ a, a < 9 → ∀ b, b < 9 → a ≠ b → (TX7 a).2.1 ≠ (TX7 b).2.1 := by decide +kernel
theorem tyX7_ok : ∀ k, k < 9 → parseFieldDescriptor (TX7 k).2.2.1 = some (tyX7 k) := by decide +kernel
abbrev cX7_init : ByteArray := prog_9_method_1_code
def yX7_init : MethodName := ⟨RX7, "<init>", "()V"⟩
abbrev cX7_arrive : ByteArray := prog_9_method_2_code
def yX7_arrive : MethodName := ⟨RX7, "arrive", "(III)V"⟩
abbrev cX7_become : ByteArray := prog_9_method_3_code
def yX7_become : MethodName := ⟨RX7, "become", "(LChairTooFew$Walker;)V"⟩
abbrev cX7_hasteOver : ByteArray := prog_9_method_4_code
def yX7_hasteOver : MethodName := ⟨RX7, "hasteOver", "(I)I"⟩
abbrev cX7_change : ByteArray := prog_9_method_5_code
def yX7_change : MethodName := ⟨RX7, "change", "(II)I"⟩
abbrev cX7_tell : ByteArray := prog_9_method_6_code
def yX7_tell : MethodName := ⟨RX7, "tell", "(I)I"⟩
def RX8 : String := "ChairTooFew"
def TX8 : u_T := fun k => match k with
  | 0 => ("ChairTooFew", "mind", "LChairTooFew$Mind;", true)
  | 1 => ("ChairTooFew", "real", "LChairTooFew$Party;", true)
  | 2 => ("ChairTooFew", "kept", "LChairTooFew$Party;", true)
  | 3 => ("ChairTooFew", "stops", "LChairTooFew$Numbers;", true)
  | 4 => ("ChairTooFew", "pictures", "LChairTooFew$Numbers;", true)
  | 5 => ("ChairTooFew", "text", "LChairTooFew$Text;", true)
  | 6 => ("ChairTooFew", "refusals", "[I", true)
  | _ => ("ChairTooFew", "imageTaken", "Z", false)
def tyX8 : Nat → FieldType := fun k => match k with
  | 0 => .object "ChairTooFew$Mind"
  | 1 => .object "ChairTooFew$Party"
  | 2 => .object "ChairTooFew$Party"
  | 3 => .object "ChairTooFew$Numbers"
  | 4 => .object "ChairTooFew$Numbers"
  | 5 => .object "ChairTooFew$Text"
  | 6 => .array .int
  | _ => .boolean
abbrev wsX80 : List Cond := u_ws RX8 TX8 8
theorem nmX8 : ∀ a, a < 8 → ∀ b, b < 8 → a ≠ b → (TX8 a).2.1 ≠ (TX8 b).2.1 := by decide +kernel
theorem tyX8_ok : ∀ k, k < 8 → parseFieldDescriptor (TX8 k).2.2.1 = some (tyX8 k) := by decide +kernel
abbrev cX8_init : ByteArray := prog_1_method_1_code
def yX8_init : MethodName := ⟨RX8, "<init>", "()V"⟩
abbrev cX8_feed : ByteArray := prog_1_method_2_code
def yX8_feed : MethodName := ⟨RX8, "feed", "(IJ)I"⟩
abbrev cX8_party : ByteArray := prog_1_method_3_code
def yX8_party : MethodName := ⟨RX8, "party", "()I"⟩
abbrev cX8_chair : ByteArray := prog_1_method_4_code
def yX8_chair : MethodName := ⟨RX8, "chair", "(I)I"⟩
abbrev cX8_walker : ByteArray := prog_1_method_5_code
def yX8_walker : MethodName := ⟨RX8, "walker", "(III)I"⟩
abbrev cX8_set : ByteArray := prog_1_method_6_code
def yX8_set : MethodName := ⟨RX8, "set", "(III)I"⟩
abbrev cX8_player : ByteArray := prog_1_method_7_code
def yX8_player : MethodName := ⟨RX8, "player", "(II)I"⟩
abbrev cX8_form : ByteArray := prog_1_method_8_code
def yX8_form : MethodName := ⟨RX8, "form", "(I)I"⟩
abbrev cX8_seed : ByteArray := prog_1_method_9_code
def yX8_seed : MethodName := ⟨RX8, "seed", "(I)I"⟩
abbrev cX8_of : ByteArray := prog_1_method_10_code
def yX8_of : MethodName := ⟨RX8, "of", "(II)I"⟩
abbrev cX8_has : ByteArray := prog_1_method_11_code
def yX8_has : MethodName := ⟨RX8, "has", "(I)I"⟩
abbrev cX8_haste : ByteArray := prog_1_method_12_code
def yX8_haste : MethodName := ⟨RX8, "haste", "(II)I"⟩
abbrev cX8_go : ByteArray := prog_1_method_13_code
def yX8_go : MethodName := ⟨RX8, "go", "(I)I"⟩
abbrev cX8_stop : ByteArray := prog_1_method_14_code
def yX8_stop : MethodName := ⟨RX8, "stop", "()I"⟩
abbrev cX8_sits : ByteArray := prog_1_method_15_code
def yX8_sits : MethodName := ⟨RX8, "sits", "(I)I"⟩
abbrev cX8_would : ByteArray := prog_1_method_16_code
def yX8_would : MethodName := ⟨RX8, "would", "(I)I"⟩
abbrev cX8_odds : ByteArray := prog_1_method_17_code
def yX8_odds : MethodName := ⟨RX8, "odds", "(II)I"⟩
abbrev cX8_fair : ByteArray := prog_1_method_18_code
def yX8_fair : MethodName := ⟨RX8, "fair", "(I)I"⟩
abbrev cX8_bestSlow : ByteArray := prog_1_method_19_code
def yX8_bestSlow : MethodName := ⟨RX8, "bestSlow", "(II)I"⟩
abbrev cX8_cheat : ByteArray := prog_1_method_20_code
def yX8_cheat : MethodName := ⟨RX8, "cheat", "(II)I"⟩
abbrev cX8_lasts : ByteArray := prog_1_method_21_code
def yX8_lasts : MethodName := ⟨RX8, "lasts", "(I)I"⟩
abbrev cX8_wins : ByteArray := prog_1_method_22_code
def yX8_wins : MethodName := ⟨RX8, "wins", "(III)I"⟩
abbrev cX8_fairest : ByteArray := prog_1_method_23_code
def yX8_fairest : MethodName := ⟨RX8, "fairest", "(II)I"⟩
abbrev cX8_shortest : ByteArray := prog_1_method_24_code
def yX8_shortest : MethodName := ⟨RX8, "shortest", "()I"⟩
abbrev cX8_row : ByteArray := prog_1_method_25_code
def yX8_row : MethodName := ⟨RX8, "row", "(I)I"⟩
abbrev cX8_could : ByteArray := prog_1_method_26_code
def yX8_could : MethodName := ⟨RX8, "could", "()I"⟩
abbrev cX8_next : ByteArray := prog_1_method_27_code
def yX8_next : MethodName := ⟨RX8, "next", "(I)I"⟩
abbrev cX8_team : ByteArray := prog_1_method_28_code
def yX8_team : MethodName := ⟨RX8, "team", "(IIII)I"⟩
abbrev cX8_film : ByteArray := prog_1_method_29_code
def yX8_film : MethodName := ⟨RX8, "film", "(I)I"⟩
abbrev cX8_judge : ByteArray := prog_1_method_30_code
def yX8_judge : MethodName := ⟨RX8, "judge", "(I)I"⟩
abbrev cX8_image : ByteArray := prog_1_method_31_code
def yX8_image : MethodName := ⟨RX8, "image", "()I"⟩
abbrev cX8_restore : ByteArray := prog_1_method_32_code
def yX8_restore : MethodName := ⟨RX8, "restore", "()I"⟩
abbrev cX8_count : ByteArray := prog_1_method_33_code
def yX8_count : MethodName := ⟨RX8, "count", "(I)I"⟩
abbrev cX8_refuse : ByteArray := prog_1_method_34_code
def yX8_refuse : MethodName := ⟨RX8, "refuse", "(I)I"⟩
abbrev cX8_whyNotSeeds : ByteArray := prog_1_method_35_code
def yX8_whyNotSeeds : MethodName := ⟨RX8, "whyNotSeeds", "(I)I"⟩
abbrev cX8_couldAllBeBy : ByteArray := prog_1_method_36_code
def yX8_couldAllBeBy : MethodName := ⟨RX8, "couldAllBeBy", "(I)Z"⟩
abbrev cX8_whyNotWithin : ByteArray := prog_1_method_37_code
def yX8_whyNotWithin : MethodName := ⟨RX8, "whyNotWithin", "(III)I"⟩
abbrev cX8_leastOf : ByteArray := prog_1_method_38_code
def yX8_leastOf : MethodName := ⟨RX8, "leastOf", "(I)I"⟩
abbrev cX8_greatestOf : ByteArray := prog_1_method_39_code
def yX8_greatestOf : MethodName := ⟨RX8, "greatestOf", "(I)I"⟩
def RX9 : String := "ChairTooFewModel"
def TX9 : u_T := fun k => match k with
  | 0 => ("ChairTooFewModel", "refused", "[I", true)
  | 1 => ("ChairTooFewModel", "chair", "[I", true)
  | 2 => ("ChairTooFewModel", "place", "[I", true)
  | 3 => ("ChairTooFewModel", "parts", "[I", true)
  | 4 => ("ChairTooFewModel", "in", "[I", true)
  | 5 => ("ChairTooFewModel", "kind", "[I", true)
  | 6 => ("ChairTooFewModel", "fast", "[I", true)
  | 7 => ("ChairTooFewModel", "slow", "[I", true)
  | 8 => ("ChairTooFewModel", "reach", "[I", true)
  | 9 => ("ChairTooFewModel", "size", "[I", true)
  | 10 => ("ChairTooFewModel", "manners", "[I", true)
  | 11 => ("ChairTooFewModel", "places", "I", false)
  | 12 => ("ChairTooFewModel", "walkers", "I", false)
  | 13 => ("ChairTooFewModel", "playerKind", "I", false)
  | 14 => ("ChairTooFewModel", "figure", "I", false)
  | 15 => ("ChairTooFewModel", "form", "I", false)
  | 16 => ("ChairTooFewModel", "lots", "I", false)
  | 17 => ("ChairTooFewModel", "tenths", "I", false)
  | 18 => ("ChairTooFewModel", "rounds", "I", false)
  | 19 => ("ChairTooFewModel", "hasEnded", "I", false)
  | 20 => ("ChairTooFewModel", "tape", "[I", true)
  | 21 => ("ChairTooFewModel", "letter", "[I", true)
  | 22 => ("ChairTooFewModel", "letterAt", "[I", true)
  | 23 => ("ChairTooFewModel", "first", "[I", true)
  | 24 => ("ChairTooFewModel", "second", "[I", true)
  | 25 => ("ChairTooFewModel", "third", "[I", true)
  | 26 => ("ChairTooFewModel", "taped", "I", false)
  | 27 => ("ChairTooFewModel", "at", "I", false)
  | 28 => ("ChairTooFewModel", "statements", "I", false)
  | 29 => ("ChairTooFewModel", "kept", "[I", true)
  | 30 => ("ChairTooFewModel", "hasImage", "Z", false)
  | 31 => ("ChairTooFewModel", "isKeeping", "Z", false)
  | 32 => ("ChairTooFewModel", "cursor", "I", false)
  | 33 => ("ChairTooFewModel", "seat", "[I", true)
  | 34 => ("ChairTooFewModel", "often", "[I", true)
  | 35 => ("ChairTooFewModel", "together", "I", false)
  | 36 => ("ChairTooFewModel", "held", "I", false)
  | 37 => ("ChairTooFewModel", "partyTenths", "I", false)
  | 38 => ("ChairTooFewModel", "partyRounds", "I", false)
  | 39 => ("ChairTooFewModel", "winner", "I", false)
  | 40 => ("ChairTooFewModel", "row", "[I", true)
  | 41 => ("ChairTooFewModel", "film", "[I", true)
  | 42 => ("ChairTooFewModel", "rowMany", "I", false)
  | _ => ("ChairTooFewModel", "filmMany", "I", false)
def tyX9 : Nat → FieldType := fun k => match k with
  | 0 => .array .int
  | 1 => .array .int
  | 2 => .array .int
  | 3 => .array .int
  | 4 => .array .int
  | 5 => .array .int
  | 6 => .array .int
  | 7 => .array .int
  | 8 => .array .int
  | 9 => .array .int
  | 10 => .array .int
  | 11 => .int
  | 12 => .int
  | 13 => .int
  | 14 => .int
  | 15 => .int
  | 16 => .int
  | 17 => .int
  | 18 => .int
  | 19 => .int
  | 20 => .array .int
  | 21 => .array .int
  | 22 => .array .int
  | 23 => .array .int
  | 24 => .array .int
  | 25 => .array .int
  | 26 => .int
  | 27 => .int
  | 28 => .int
  | 29 => .array .int
  | 30 => .boolean
  | 31 => .boolean
  | 32 => .int
  | 33 => .array .int
  | 34 => .array .int
  | 35 => .int
  | 36 => .int
  | 37 => .int
  | 38 => .int
  | 39 => .int
  | 40 => .array .int
  | 41 => .array .int
  | 42 => .int
  | _ => .int
abbrev wsX90 : List Cond := u_ws RX9 TX9 44
theorem nmX9 : ∀ a, a < 44 → ∀ b, b < 44 → a ≠ b → (TX9 a).2.1 ≠ (TX9 b).2.1 := by decide +kernel
theorem tyX9_ok : ∀ k, k < 44 → parseFieldDescriptor (TX9 k).2.2.1 = some (tyX9 k) := by decide +kernel
abbrev cX9_init : ByteArray := prog_11_method_1_code
def yX9_init : MethodName := ⟨RX9, "<init>", "()V"⟩
abbrev cX9_no : ByteArray := prog_11_method_2_code
def yX9_no : MethodName := ⟨RX9, "no", "(I)I"⟩
abbrev cX9_isIn : ByteArray := prog_11_method_3_code
def yX9_isIn : MethodName := ⟨RX9, "isIn", "(III)Z"⟩
abbrev cX9_bound : ByteArray := prog_11_method_4_code
def yX9_bound : MethodName := ⟨RX9, "bound", "(III)I"⟩
abbrev cX9_isPlace : ByteArray := prog_11_method_5_code
def yX9_isPlace : MethodName := ⟨RX9, "isPlace", "(I)Z"⟩
abbrev cX9_isWalker : ByteArray := prog_11_method_6_code
def yX9_isWalker : MethodName := ⟨RX9, "isWalker", "(I)Z"⟩
abbrev cX9_chairs : ByteArray := prog_11_method_7_code
def yX9_chairs : MethodName := ⟨RX9, "chairs", "()I"⟩
abbrev cX9_far : ByteArray := prog_11_method_8_code
def yX9_far : MethodName := ⟨RX9, "far", "(II)I"⟩
abbrev cX9_isTaken : ByteArray := prog_11_method_9_code
def yX9_isTaken : MethodName := ⟨RX9, "isTaken", "(I)Z"⟩
abbrev cX9_ins : ByteArray := prog_11_method_10_code
def yX9_ins : MethodName := ⟨RX9, "ins", "()I"⟩
abbrev cX9_comesChair : ByteArray := prog_11_method_11_code
def yX9_comesChair : MethodName := ⟨RX9, "comesChair", "(I)V"⟩
abbrev cX9_comesWalker : ByteArray := prog_11_method_12_code
def yX9_comesWalker : MethodName := ⟨RX9, "comesWalker", "(III)V"⟩
abbrev cX9_chair : ByteArray := prog_11_method_13_code
def yX9_chair : MethodName := ⟨RX9, "chair", "(I)I"⟩
abbrev cX9_walker : ByteArray := prog_11_method_14_code
def yX9_walker : MethodName := ⟨RX9, "walker", "(III)I"⟩
abbrev cX9_set : ByteArray := prog_11_method_15_code
def yX9_set : MethodName := ⟨RX9, "set", "(III)I"⟩
abbrev cX9_player : ByteArray := prog_11_method_16_code
def yX9_player : MethodName := ⟨RX9, "player", "(II)I"⟩
abbrev cX9_form : ByteArray := prog_11_method_17_code
def yX9_form : MethodName := ⟨RX9, "form", "(I)I"⟩
abbrev cX9_seed : ByteArray := prog_11_method_18_code
def yX9_seed : MethodName := ⟨RX9, "seed", "(I)I"⟩
abbrev cX9_of : ByteArray := prog_11_method_19_code
def yX9_of : MethodName := ⟨RX9, "of", "(II)I"⟩
abbrev cX9_has : ByteArray := prog_11_method_20_code
def yX9_has : MethodName := ⟨RX9, "has", "(I)I"⟩
abbrev cX9_hasteOf : ByteArray := prog_11_method_21_code
def yX9_hasteOf : MethodName := ⟨RX9, "hasteOf", "(II)I"⟩
abbrev cX9_haste : ByteArray := prog_11_method_22_code
def yX9_haste : MethodName := ⟨RX9, "haste", "(II)I"⟩
abbrev cX9_feed : ByteArray := prog_11_method_23_code
def yX9_feed : MethodName := ⟨RX9, "feed", "(IJ)I"⟩
abbrev cX9_sign : ByteArray := prog_11_method_24_code
def yX9_sign : MethodName := ⟨RX9, "sign", "()I"⟩
abbrev cX9_takes : ByteArray := prog_11_method_25_code
def yX9_takes : MethodName := ⟨RX9, "takes", "(I)Z"⟩
abbrev cX9_number : ByteArray := prog_11_method_26_code
def yX9_number : MethodName := ⟨RX9, "number", "(I)I"⟩
abbrev cX9_statement : ByteArray := prog_11_method_27_code
def yX9_statement : MethodName := ⟨RX9, "statement", "()Z"⟩
abbrev cX9_comes : ByteArray := prog_11_method_28_code
def yX9_comes : MethodName := ⟨RX9, "comes", "(I)Z"⟩
abbrev cX9_party : ByteArray := prog_11_method_29_code
def yX9_party : MethodName := ⟨RX9, "party", "()I"⟩
abbrev cX9_passes : ByteArray := prog_11_method_30_code
def yX9_passes : MethodName := ⟨RX9, "passes", "([I)V"⟩
abbrev cX9_passOne : ByteArray := prog_11_method_31_code
def yX9_passOne : MethodName := ⟨RX9, "passOne", "(I)I"⟩
abbrev cX9_passesAll : ByteArray := prog_11_method_32_code
def yX9_passesAll : MethodName := ⟨RX9, "passesAll", "(IZ)V"⟩
abbrev cX9_walks : ByteArray := prog_11_method_33_code
def yX9_walks : MethodName := ⟨RX9, "walks", "()V"⟩
abbrev cX9_isSeat : ByteArray := prog_11_method_34_code
def yX9_isSeat : MethodName := ⟨RX9, "isSeat", "(I)Z"⟩
abbrev cX9_mayReach : ByteArray := prog_11_method_35_code
def yX9_mayReach : MethodName := ⟨RX9, "mayReach", "(II)Z"⟩
abbrev cX9_seatsOne : ByteArray := prog_11_method_36_code
def yX9_seatsOne : MethodName := ⟨RX9, "seatsOne", "()Z"⟩
abbrev cX9_judges : ByteArray := prog_11_method_37_code
def yX9_judges : MethodName := ⟨RX9, "judges", "(I)V"⟩
abbrev cX9_sit : ByteArray := prog_11_method_38_code
def yX9_sit : MethodName := ⟨RX9, "sit", "()V"⟩
abbrev cX9_nearest : ByteArray := prog_11_method_39_code
def yX9_nearest : MethodName := ⟨RX9, "nearest", "(I)I"⟩
abbrev cX9_goer : ByteArray := prog_11_method_40_code
def yX9_goer : MethodName := ⟨RX9, "goer", "()I"⟩
abbrev cX9_ways : ByteArray := prog_11_method_41_code
def yX9_ways : MethodName := ⟨RX9, "ways", "(I)I"⟩
abbrev cX9_leaver : ByteArray := prog_11_method_42_code
def yX9_leaver : MethodName := ⟨RX9, "leaver", "()I"⟩
abbrev cX9_stops : ByteArray := prog_11_method_43_code
def yX9_stops : MethodName := ⟨RX9, "stops", "()I"⟩
abbrev cX9_doesStop : ByteArray := prog_11_method_44_code
def yX9_doesStop : MethodName := ⟨RX9, "doesStop", "()Z"⟩
abbrev cX9_goesOn : ByteArray := prog_11_method_45_code
def yX9_goesOn : MethodName := ⟨RX9, "goesOn", "()Z"⟩
abbrev cX9_isOver : ByteArray := prog_11_method_46_code
def yX9_isOver : MethodName := ⟨RX9, "isOver", "()Z"⟩
abbrev cX9_go : ByteArray := prog_11_method_47_code
def yX9_go : MethodName := ⟨RX9, "go", "(I)I"⟩
abbrev cX9_stop : ByteArray := prog_11_method_48_code
def yX9_stop : MethodName := ⟨RX9, "stop", "()I"⟩
abbrev cX9_isThere : ByteArray := prog_11_method_49_code
def yX9_isThere : MethodName := ⟨RX9, "isThere", "(I)Z"⟩
abbrev cX9_sits : ByteArray := prog_11_method_50_code
def yX9_sits : MethodName := ⟨RX9, "sits", "(I)I"⟩
abbrev cX9_would : ByteArray := prog_11_method_51_code
def yX9_would : MethodName := ⟨RX9, "would", "(I)I"⟩
abbrev cX9_findOdds : ByteArray := prog_11_method_52_code
def yX9_findOdds : MethodName := ⟨RX9, "findOdds", "(III)V"⟩
abbrev cX9_oddsOf : ByteArray := prog_11_method_53_code
def yX9_oddsOf : MethodName := ⟨RX9, "oddsOf", "(II)I"⟩
abbrev cX9_notOdds : ByteArray := prog_11_method_54_code
def yX9_notOdds : MethodName := ⟨RX9, "notOdds", "(II)I"⟩
abbrev cX9_odds : ByteArray := prog_11_method_55_code
def yX9_odds : MethodName := ⟨RX9, "odds", "(II)I"⟩
abbrev cX9_fair : ByteArray := prog_11_method_56_code
def yX9_fair : MethodName := ⟨RX9, "fair", "(I)I"⟩
abbrev cX9_oddsBy : ByteArray := prog_11_method_57_code
def yX9_oddsBy : MethodName := ⟨RX9, "oddsBy", "(III)I"⟩
abbrev cX9_bestSlow : ByteArray := prog_11_method_58_code
def yX9_bestSlow : MethodName := ⟨RX9, "bestSlow", "(II)I"⟩
abbrev cX9_cheat : ByteArray := prog_11_method_59_code
def yX9_cheat : MethodName := ⟨RX9, "cheat", "(II)I"⟩
abbrev cX9_plays : ByteArray := prog_11_method_60_code
def yX9_plays : MethodName := ⟨RX9, "plays", "()V"⟩
abbrev cX9_partyBy : ByteArray := prog_11_method_61_code
def yX9_partyBy : MethodName := ⟨RX9, "partyBy", "(III)V"⟩
abbrev cX9_lasts : ByteArray := prog_11_method_62_code
def yX9_lasts : MethodName := ⟨RX9, "lasts", "(I)I"⟩
abbrev cX9_wins : ByteArray := prog_11_method_63_code
def yX9_wins : MethodName := ⟨RX9, "wins", "(III)I"⟩
abbrev cX9_fairest : ByteArray := prog_11_method_64_code
def yX9_fairest : MethodName := ⟨RX9, "fairest", "(II)I"⟩
abbrev cX9_shortest : ByteArray := prog_11_method_65_code
def yX9_shortest : MethodName := ⟨RX9, "shortest", "()I"⟩
abbrev cX9_row : ByteArray := prog_11_method_66_code
def yX9_row : MethodName := ⟨RX9, "row", "(I)I"⟩
abbrev cX9_could : ByteArray := prog_11_method_67_code
def yX9_could : MethodName := ⟨RX9, "could", "()I"⟩
abbrev cX9_next : ByteArray := prog_11_method_68_code
def yX9_next : MethodName := ⟨RX9, "next", "(I)I"⟩
abbrev cX9_team : ByteArray := prog_11_method_69_code
def yX9_team : MethodName := ⟨RX9, "team", "(IIII)I"⟩
abbrev cX9_film : ByteArray := prog_11_method_70_code
def yX9_film : MethodName := ⟨RX9, "film", "(I)I"⟩
abbrev cX9_judge : ByteArray := prog_11_method_71_code
def yX9_judge : MethodName := ⟨RX9, "judge", "(I)I"⟩
abbrev cX9_image : ByteArray := prog_11_method_72_code
def yX9_image : MethodName := ⟨RX9, "image", "()I"⟩
abbrev cX9_restore : ByteArray := prog_11_method_73_code
def yX9_restore : MethodName := ⟨RX9, "restore", "()I"⟩
abbrev cX9_count : ByteArray := prog_11_method_74_code
def yX9_count : MethodName := ⟨RX9, "count", "(I)I"⟩
def RJ6 : String := "java/lang/Integer"
def TJ6 : u_T := fun k => match k with
  | _ => ("", "", "", false)
def tyJ6 : Nat → FieldType := fun k => match k with
  | _ => .int
abbrev wsJ60 : List Cond := u_ws RJ6 TJ6 0
theorem nmJ6 : ∀ a, a < 0 → ∀ b, b < 0 → a ≠ b → (TJ6 a).2.1 ≠ (TJ6 b).2.1 := by decide +kernel
theorem tyJ6_ok : ∀ k, k < 0 → parseFieldDescriptor (TJ6 k).2.2.1 = some (tyJ6 k) := by decide +kernel
abbrev cJ6_bitCount_0f7a4 : ByteArray := prog_12_method_49_code
def yJ6_bitCount_0f7a4 : MethodName := ⟨RJ6, "bitCount", "(I)I"⟩
def RJ9 : String := "java/lang/Math"
def TJ9 : u_T := fun k => match k with
  | _ => ("", "", "", false)
def tyJ9 : Nat → FieldType := fun k => match k with
  | _ => .int
abbrev wsJ90 : List Cond := u_ws RJ9 TJ9 0
theorem nmJ9 : ∀ a, a < 0 → ∀ b, b < 0 → a ≠ b → (TJ9 a).2.1 ≠ (TJ9 b).2.1 := by decide +kernel
theorem tyJ9_ok : ∀ k, k < 0 → parseFieldDescriptor (TJ9 k).2.2.1 = some (tyJ9 k) := by decide +kernel
abbrev cJ9_max_7cf53 : ByteArray := prog_13_method_65_code
def yJ9_max_7cf53 : MethodName := ⟨RJ9, "max", "(II)I"⟩
abbrev cJ9_min_7cf53 : ByteArray := prog_13_method_69_code
def yJ9_min_7cf53 : MethodName := ⟨RJ9, "min", "(II)I"⟩
def RJ0 : String := "java/lang/String"
def TJ0 : u_T := fun k => match k with
  | _ => ("", "", "", false)
def tyJ0 : Nat → FieldType := fun k => match k with
  | _ => .int
abbrev wsJ00 : List Cond := u_ws RJ0 TJ0 0
theorem nmJ0 : ∀ a, a < 0 → ∀ b, b < 0 → a ≠ b → (TJ0 a).2.1 ≠ (TJ0 b).2.1 := by decide +kernel
theorem tyJ0_ok : ∀ k, k < 0 → parseFieldDescriptor (TJ0 k).2.2.1 = some (tyJ0 k) := by decide +kernel
abbrev cJ0_length_8abf5 : ByteArray := prog_14_method_54_code
def yJ0_length_8abf5 : MethodName := ⟨RJ0, "length", "()I"⟩
abbrev cJ0_isEmpty_aae02 : ByteArray := prog_14_method_55_code
def yJ0_isEmpty_aae02 : MethodName := ⟨RJ0, "isEmpty", "()Z"⟩
abbrev cJ0_charAt_5068e : ByteArray := prog_14_method_56_code
def yJ0_charAt_5068e : MethodName := ⟨RJ0, "charAt", "(I)C"⟩
abbrev cJ0_coder_7d493 : ByteArray := prog_14_method_152_code
def yJ0_coder_7d493 : MethodName := ⟨RJ0, "coder", "()B"⟩
abbrev cJ0_isLatin1_aae02 : ByteArray := prog_14_method_154_code
def yJ0_isLatin1_aae02 : MethodName := ⟨RJ0, "isLatin1", "()Z"⟩
abbrev cJ0_checkIndex_df160 : ByteArray := prog_14_method_155_code
def yJ0_checkIndex_df160 : MethodName := ⟨RJ0, "checkIndex", "(II)V"⟩
def RJ1 : String := "java/lang/StringLatin1"
def TJ1 : u_T := fun k => match k with
  | _ => ("", "", "", false)
def tyJ1 : Nat → FieldType := fun k => match k with
  | _ => .int
abbrev wsJ10 : List Cond := u_ws RJ1 TJ1 0
theorem nmJ1 : ∀ a, a < 0 → ∀ b, b < 0 → a ≠ b → (TJ1 a).2.1 ≠ (TJ1 b).2.1 := by decide +kernel
theorem tyJ1_ok : ∀ k, k < 0 → parseFieldDescriptor (TJ1 k).2.2.1 = some (tyJ1 k) := by decide +kernel
abbrev cJ1_charAt_3b067 : ByteArray := prog_15_method_2_code
def yJ1_charAt_3b067 : MethodName := ⟨RJ1, "charAt", "([BI)C"⟩
def RJ2 : String := "java/lang/StringUTF16"
def TJ2 : u_T := fun k => match k with
  | _ => ("", "", "", false)
def tyJ2 : Nat → FieldType := fun k => match k with
  | _ => .int
abbrev wsJ20 : List Cond := u_ws RJ2 TJ2 0
theorem nmJ2 : ∀ a, a < 0 → ∀ b, b < 0 → a ≠ b → (TJ2 a).2.1 ≠ (TJ2 b).2.1 := by decide +kernel
theorem tyJ2_ok : ∀ k, k < 0 → parseFieldDescriptor (TJ2 k).2.2.1 = some (tyJ2 k) := by decide +kernel
abbrev cJ2_getChar_3b067 : ByteArray := prog_16_method_5_code
def yJ2_getChar_3b067 : MethodName := ⟨RJ2, "getChar", "([BI)C"⟩
abbrev cJ2_length_9d52b : ByteArray := prog_16_method_6_code
def yJ2_length_9d52b : MethodName := ⟨RJ2, "length", "([B)I"⟩
abbrev cJ2_charAt_3b067 : ByteArray := prog_16_method_83_code
def yJ2_charAt_3b067 : MethodName := ⟨RJ2, "charAt", "([BI)C"⟩
abbrev cJ2_checkIndex_2214a : ByteArray := prog_16_method_91_code
def yJ2_checkIndex_2214a : MethodName := ⟨RJ2, "checkIndex", "(I[B)V"⟩
def RJ10 : String := "java/lang/System"
def TJ10 : u_T := fun k => match k with
  | _ => ("", "", "", false)
def tyJ10 : Nat → FieldType := fun k => match k with
  | _ => .int
abbrev wsJ100 : List Cond := u_ws RJ10 TJ10 0
theorem nmJ10 : ∀ a, a < 0 → ∀ b, b < 0 → a ≠ b → (TJ10 a).2.1 ≠ (TJ10 b).2.1 := by decide +kernel
theorem tyJ10_ok : ∀ k, k < 0 → parseFieldDescriptor (TJ10 k).2.2.1 = some (tyJ10 k) := by decide +kernel
def RJ3 : String := "jdk/internal/util/Preconditions"
def TJ3 : u_T := fun k => match k with
  | _ => ("", "", "", false)
def tyJ3 : Nat → FieldType := fun k => match k with
  | _ => .int
abbrev wsJ30 : List Cond := u_ws RJ3 TJ3 0
theorem nmJ3 : ∀ a, a < 0 → ∀ b, b < 0 → a ≠ b → (TJ3 a).2.1 ≠ (TJ3 b).2.1 := by decide +kernel
theorem tyJ3_ok : ∀ k, k < 0 → parseFieldDescriptor (TJ3 k).2.2.1 = some (tyJ3 k) := by decide +kernel
abbrev cJ3_checkIndex_8e157 : ByteArray := prog_18_method_11_code
def yJ3_checkIndex_8e157 : MethodName := ⟨RJ3, "checkIndex", "(IILjava/util/function/BiFunction;)I"⟩
def RL : String := "ChairTooFewLaw"
abbrev cL_law : ByteArray := code
def yL_law : MethodName := ⟨RL, "law", "([I)Z"⟩
abbrev vwCl : List vw_C := [(RX0, TX0, 5), (RX1, TX1, 2), (RX2, TX2, 10), (RX3, TX3, 3), (RX4, TX4, 4), (RX5, TX5, 5), (RX6, TX6, 6), (RX7, TX7, 9), (RX8, TX8, 8), (RX9, TX9, 44)]
end
section
def BIG : List Cond := lw_tbl.filter goodWord
theorem TP {w : Cond} (h : w ∈ k2_sels lw_privs) (g : goodWord w = true) : w ∈ BIG := List.mem_filter.mpr ⟨List.mem_append_left _ h, g⟩
theorem T1 {w : Cond} (h : w ∈ tables_1_1) (g : goodWord w = true) : w ∈ BIG := List.mem_filter.mpr ⟨List.mem_append_right _ (List.mem_append_left _ h), g⟩
theorem U1 {w : Cond} (h : w ∈ tables_1_1) : w ∈ lw_tbl := List.mem_append_right _ (List.mem_append_left _ h)
theorem T2 {w : Cond} (h : w ∈ tables_1_2) (g : goodWord w = true) : w ∈ BIG := List.mem_filter.mpr ⟨List.mem_append_right _ (List.mem_append_right _ (List.mem_append_left _ h)), g⟩
theorem U2 {w : Cond} (h : w ∈ tables_1_2) : w ∈ lw_tbl := List.mem_append_right _ (List.mem_append_right _ (List.mem_append_left _ h))
theorem T3 {w : Cond} (h : w ∈ tables_1_3) (g : goodWord w = true) : w ∈ BIG := List.mem_filter.mpr ⟨List.mem_append_right _ (List.mem_append_right _ (List.mem_append_right _ (List.mem_append_left _ h))), g⟩
theorem U3 {w : Cond} (h : w ∈ tables_1_3) : w ∈ lw_tbl := List.mem_append_right _ (List.mem_append_right _ (List.mem_append_right _ (List.mem_append_left _ h)))
theorem T4 {w : Cond} (h : w ∈ tables_1_4) (g : goodWord w = true) : w ∈ BIG := List.mem_filter.mpr ⟨List.mem_append_right _ (List.mem_append_right _ (List.mem_append_right _ (List.mem_append_right _ (List.mem_append_left _ h)))), g⟩
theorem U4 {w : Cond} (h : w ∈ tables_1_4) : w ∈ lw_tbl := List.mem_append_right _ (List.mem_append_right _ (List.mem_append_right _ (List.mem_append_right _ (List.mem_append_left _ h))))
theorem T5 {w : Cond} (h : w ∈ tables_1_5) (g : goodWord w = true) : w ∈ BIG := List.mem_filter.mpr ⟨List.mem_append_right _ (List.mem_append_right _ (List.mem_append_right _ (List.mem_append_right _ (List.mem_append_right _ (List.mem_append_left _ h))))), g⟩
theorem U5 {w : Cond} (h : w ∈ tables_1_5) : w ∈ lw_tbl := List.mem_append_right _ (List.mem_append_right _ (List.mem_append_right _ (List.mem_append_right _ (List.mem_append_right _ (List.mem_append_left _ h)))))
theorem T6 {w : Cond} (h : w ∈ tables_1_6) (g : goodWord w = true) : w ∈ BIG := List.mem_filter.mpr ⟨List.mem_append_right _ (List.mem_append_right _ (List.mem_append_right _ (List.mem_append_right _ (List.mem_append_right _ (List.mem_append_right _ h))))), g⟩
theorem U6 {w : Cond} (h : w ∈ tables_1_6) : w ∈ lw_tbl := List.mem_append_right _ (List.mem_append_right _ (List.mem_append_right _ (List.mem_append_right _ (List.mem_append_right _ (List.mem_append_right _ h)))))
theorem W1_0 : Cond.initialized RL ∈ BIG := T1 (List.mem_of_getElem? (i := 0) rfl) rfl
theorem W1_1 : Cond.initialized RX8 ∈ BIG := T1 (List.mem_of_getElem? (i := 1) rfl) rfl
theorem W1_2 : Cond.initialized RX0 ∈ BIG := T1 (List.mem_of_getElem? (i := 2) rfl) rfl
theorem W1_3 : Cond.initialized RX2 ∈ BIG := T1 (List.mem_of_getElem? (i := 3) rfl) rfl
theorem W1_4 : Cond.initialized RX4 ∈ BIG := T1 (List.mem_of_getElem? (i := 4) rfl) rfl
theorem W1_5 : Cond.initialized RX3 ∈ BIG := T1 (List.mem_of_getElem? (i := 5) rfl) rfl
theorem W1_6 : Cond.initialized RX5 ∈ BIG := T1 (List.mem_of_getElem? (i := 6) rfl) rfl
theorem W1_7 : Cond.initialized RX7 ∈ BIG := T1 (List.mem_of_getElem? (i := 7) rfl) rfl
theorem W1_8 : Cond.initialized RX1 ∈ BIG := T1 (List.mem_of_getElem? (i := 8) rfl) rfl
theorem W1_9 : Cond.initialized RX6 ∈ BIG := T1 (List.mem_of_getElem? (i := 9) rfl) rfl
theorem W1_10 : Cond.initialized RX9 ∈ BIG := T1 (List.mem_of_getElem? (i := 10) rfl) rfl
theorem W1_11 : Cond.initialized RJ0 ∈ BIG := T1 (List.mem_of_getElem? (i := 11) rfl) rfl
theorem W1_12 : Cond.initialized RJ1 ∈ BIG := T1 (List.mem_of_getElem? (i := 12) rfl) rfl
theorem W1_13 : Cond.initialized RJ3 ∈ BIG := T1 (List.mem_of_getElem? (i := 13) rfl) rfl
theorem W1_14 : Cond.initialized RJ2 ∈ BIG := T1 (List.mem_of_getElem? (i := 14) rfl) rfl
theorem W1_15 : Cond.initialized RJ10 ∈ BIG := T1 (List.mem_of_getElem? (i := 15) rfl) rfl
theorem W1_16 : Cond.initialized RJ9 ∈ BIG := T1 (List.mem_of_getElem? (i := 16) rfl) rfl
theorem W1_17 : Cond.initialized RJ6 ∈ BIG := T1 (List.mem_of_getElem? (i := 17) rfl) rfl
theorem W1_18 : Cond.classLink RL 7 RX8 ∈ BIG := T1 (List.mem_of_getElem? (i := 18) rfl) rfl
theorem W1_19 : Cond.instantiable RX8 8 ∈ BIG := T1 (List.mem_of_getElem? (i := 19) rfl) rfl
theorem W1_20 : Cond.methodLink RL 9 yX8_init ∈ BIG := T1 (List.mem_of_getElem? (i := 20) rfl) rfl
theorem W1_21 : Cond.instanceMethod yX8_init ∈ BIG := T1 (List.mem_of_getElem? (i := 21) rfl) rfl
theorem W1_22 : Cond.code yX8_init cX8_init 1 (Option.none : Option Jvm.ClassFile.FieldType) ∈ BIG := T1 (List.mem_of_getElem? (i := 22) rfl) rfl
theorem W1_23 : Cond.methodLink RX8 1 objectInit ∈ BIG := T1 (List.mem_of_getElem? (i := 23) rfl) rfl
theorem W1_24 : Cond.instanceMethod objectInit ∈ BIG := T1 (List.mem_of_getElem? (i := 24) rfl) rfl
theorem W1_25 : Cond.code objectInit object_method_1_code 1 (Option.none : Option Jvm.ClassFile.FieldType) ∈ BIG := T1 (List.mem_of_getElem? (i := 25) rfl) rfl
theorem W1_26 : Cond.classLink RX8 7 RX0 ∈ BIG := T1 (List.mem_of_getElem? (i := 26) rfl) rfl
theorem W1_27 : Cond.instantiable RX0 5 ∈ BIG := T1 (List.mem_of_getElem? (i := 27) rfl) rfl
theorem W1_28 : Cond.methodLinkNest RX8 9 yX0_init "ChairTooFew" ∈ lw_tbl := U1 (List.mem_of_getElem? (i := 28) rfl)
theorem W1_29 : Cond.instanceMethod yX0_init ∈ BIG := T1 (List.mem_of_getElem? (i := 29) rfl) rfl
theorem W1_30 : Cond.code yX0_init cX0_init 1 (Option.none : Option Jvm.ClassFile.FieldType) ∈ BIG := T1 (List.mem_of_getElem? (i := 30) rfl) rfl
theorem W1_31 : Cond.methodLink RX0 3 objectInit ∈ BIG := T1 (List.mem_of_getElem? (i := 31) rfl) rfl
theorem W1_32 : Cond.classLink RX0 9 RX2 ∈ BIG := T1 (List.mem_of_getElem? (i := 32) rfl) rfl
theorem W1_33 : Cond.instantiable RX2 10 ∈ BIG := T1 (List.mem_of_getElem? (i := 33) rfl) rfl
theorem W1_34 : Cond.methodLink RX0 11 yX2_init ∈ BIG := T1 (List.mem_of_getElem? (i := 34) rfl) rfl
theorem W1_35 : Cond.instanceMethod yX2_init ∈ BIG := T1 (List.mem_of_getElem? (i := 35) rfl) rfl
theorem W1_36 : Cond.code yX2_init cX2_init 2 (Option.none : Option Jvm.ClassFile.FieldType) ∈ BIG := T1 (List.mem_of_getElem? (i := 36) rfl) rfl
theorem W1_37 : Cond.methodLink RX2 3 objectInit ∈ BIG := T1 (List.mem_of_getElem? (i := 37) rfl) rfl
theorem W1_38 : Cond.classLink RX2 9 RX4 ∈ BIG := T1 (List.mem_of_getElem? (i := 38) rfl) rfl
theorem W1_39 : Cond.instantiable RX4 4 ∈ BIG := T1 (List.mem_of_getElem? (i := 39) rfl) rfl
theorem W1_40 : Cond.methodLinkNest RX2 11 yX4_init "ChairTooFew" ∈ lw_tbl := U1 (List.mem_of_getElem? (i := 40) rfl)
theorem W1_41 : Cond.instanceMethod yX4_init ∈ BIG := T1 (List.mem_of_getElem? (i := 41) rfl) rfl
theorem W1_42 : Cond.code yX4_init cX4_init 1 (Option.none : Option Jvm.ClassFile.FieldType) ∈ BIG := T1 (List.mem_of_getElem? (i := 42) rfl) rfl
theorem W1_43 : Cond.methodLink RX4 3 objectInit ∈ BIG := T1 (List.mem_of_getElem? (i := 43) rfl) rfl
theorem W1_44 : Cond.fieldLink RX4 9 "ChairTooFew$Ring" "places" "I" ∈ BIG := T1 (List.mem_of_getElem? (i := 44) rfl) rfl
theorem W1_45 : Cond.fieldLink RX6 119 "ChairTooFew$Ring" "places" "I" ∈ BIG := T1 (List.mem_of_getElem? (i := 45) rfl) rfl
theorem W1_46 : Cond.fieldLink RX2 130 "ChairTooFew$Ring" "places" "I" ∈ BIG := T1 (List.mem_of_getElem? (i := 46) rfl) rfl
theorem W1_47 : Cond.fieldLink RX8 249 "ChairTooFew$Ring" "places" "I" ∈ BIG := T1 (List.mem_of_getElem? (i := 47) rfl) rfl
theorem W1_48 : Cond.fieldLink RX4 15 "ChairTooFew$Ring" "chairs" "I" ∈ BIG := T1 (List.mem_of_getElem? (i := 48) rfl) rfl
theorem W1_49 : Cond.fieldLink RX5 68 "ChairTooFew$Ring" "chairs" "I" ∈ BIG := T1 (List.mem_of_getElem? (i := 49) rfl) rfl
theorem W1_50 : Cond.fieldLink RX2 87 "ChairTooFew$Ring" "chairs" "I" ∈ BIG := T1 (List.mem_of_getElem? (i := 50) rfl) rfl
theorem W1_51 : Cond.fieldLink RX6 111 "ChairTooFew$Ring" "chairs" "I" ∈ BIG := T1 (List.mem_of_getElem? (i := 51) rfl) rfl
theorem W1_52 : Cond.fieldLink RX8 252 "ChairTooFew$Ring" "chairs" "I" ∈ BIG := T1 (List.mem_of_getElem? (i := 52) rfl) rfl
theorem W1_53 : Cond.fieldLink RX4 18 "ChairTooFew$Ring" "chairPlaces" "[I" ∈ BIG := T1 (List.mem_of_getElem? (i := 53) rfl) rfl
theorem W1_54 : Cond.fieldLink RX4 22 "ChairTooFew$Ring" "taken" "[Z" ∈ BIG := T1 (List.mem_of_getElem? (i := 54) rfl) rfl
theorem W1_55 : Cond.lays RX4 "ChairTooFew$Ring" "places" "I" ∈ BIG := T1 (List.mem_of_getElem? (i := 55) rfl) rfl
theorem W1_57 : Cond.lays RX4 "ChairTooFew$Ring" "chairs" "I" ∈ BIG := T1 (List.mem_of_getElem? (i := 57) rfl) rfl
theorem W1_59 : Cond.laysFinal RX4 "ChairTooFew$Ring" "chairPlaces" "[I" ∈ BIG := T1 (List.mem_of_getElem? (i := 59) rfl) rfl
theorem W1_61 : Cond.laysFinal RX4 "ChairTooFew$Ring" "taken" "[Z" ∈ BIG := T1 (List.mem_of_getElem? (i := 61) rfl) rfl
theorem W1_64 : Cond.arrayClass Jvm.ClassFile.FieldType.int ∈ BIG := T1 (List.mem_of_getElem? (i := 64) rfl) rfl
theorem W1_65 : Cond.arrayClass Jvm.ClassFile.FieldType.boolean ∈ BIG := T1 (List.mem_of_getElem? (i := 65) rfl) rfl
theorem W1_66 : Cond.classLink RX2 18 RX3 ∈ BIG := T1 (List.mem_of_getElem? (i := 66) rfl) rfl
theorem W1_67 : Cond.instantiable RX3 3 ∈ BIG := T1 (List.mem_of_getElem? (i := 67) rfl) rfl
theorem W1_68 : Cond.methodLinkNest RX2 20 yX3_init "ChairTooFew" ∈ lw_tbl := U1 (List.mem_of_getElem? (i := 68) rfl)
theorem W1_69 : Cond.instanceMethod yX3_init ∈ BIG := T1 (List.mem_of_getElem? (i := 69) rfl) rfl
theorem W1_70 : Cond.code yX3_init cX3_init 1 (Option.none : Option Jvm.ClassFile.FieldType) ∈ BIG := T1 (List.mem_of_getElem? (i := 70) rfl) rfl
theorem W1_71 : Cond.methodLink RX3 3 objectInit ∈ BIG := T1 (List.mem_of_getElem? (i := 71) rfl) rfl
theorem W1_72 : Cond.fieldLink RX3 11 "ChairTooFew$Player" "kind" "I" ∈ BIG := T1 (List.mem_of_getElem? (i := 72) rfl) rfl
theorem W1_73 : Cond.fieldLink RX8 112 "ChairTooFew$Player" "kind" "I" ∈ BIG := T1 (List.mem_of_getElem? (i := 73) rfl) rfl
theorem W1_74 : Cond.fieldLink RX0 119 "ChairTooFew$Player" "kind" "I" ∈ BIG := T1 (List.mem_of_getElem? (i := 74) rfl) rfl
theorem W1_75 : Cond.fieldLink RX2 147 "ChairTooFew$Player" "kind" "I" ∈ BIG := T1 (List.mem_of_getElem? (i := 75) rfl) rfl
theorem W1_76 : Cond.fieldLink RX6 145 "ChairTooFew$Player" "kind" "I" ∈ BIG := T1 (List.mem_of_getElem? (i := 76) rfl) rfl
theorem W1_77 : Cond.fieldLink RX3 15 "ChairTooFew$Player" "figure" "I" ∈ BIG := T1 (List.mem_of_getElem? (i := 77) rfl) rfl
theorem W1_78 : Cond.fieldLink RX8 115 "ChairTooFew$Player" "figure" "I" ∈ BIG := T1 (List.mem_of_getElem? (i := 78) rfl) rfl
theorem W1_79 : Cond.fieldLink RX2 150 "ChairTooFew$Player" "figure" "I" ∈ BIG := T1 (List.mem_of_getElem? (i := 79) rfl) rfl
theorem W1_80 : Cond.fieldLink RX6 148 "ChairTooFew$Player" "figure" "I" ∈ BIG := T1 (List.mem_of_getElem? (i := 80) rfl) rfl
theorem W1_81 : Cond.fieldLink RX3 18 "ChairTooFew$Player" "z" "I" ∈ BIG := T1 (List.mem_of_getElem? (i := 81) rfl) rfl
theorem W1_82 : Cond.fieldLink RX0 101 "ChairTooFew$Player" "z" "I" ∈ BIG := T1 (List.mem_of_getElem? (i := 82) rfl) rfl
theorem W1_83 : Cond.fieldLink RX8 124 "ChairTooFew$Player" "z" "I" ∈ BIG := T1 (List.mem_of_getElem? (i := 83) rfl) rfl
theorem W1_84 : Cond.lays RX3 "ChairTooFew$Player" "kind" "I" ∈ BIG := T1 (List.mem_of_getElem? (i := 84) rfl) rfl
theorem W1_86 : Cond.lays RX3 "ChairTooFew$Player" "figure" "I" ∈ BIG := T1 (List.mem_of_getElem? (i := 86) rfl) rfl
theorem W1_88 : Cond.lays RX3 "ChairTooFew$Player" "z" "I" ∈ BIG := T1 (List.mem_of_getElem? (i := 88) rfl) rfl
theorem W1_91 : Cond.classLink RX2 25 RX5 ∈ BIG := T1 (List.mem_of_getElem? (i := 91) rfl) rfl
theorem W1_92 : Cond.instantiable RX5 5 ∈ BIG := T1 (List.mem_of_getElem? (i := 92) rfl) rfl
theorem W1_93 : Cond.methodLinkNest RX2 27 yX5_init "ChairTooFew" ∈ lw_tbl := U1 (List.mem_of_getElem? (i := 93) rfl)
theorem W1_94 : Cond.instanceMethod yX5_init ∈ BIG := T1 (List.mem_of_getElem? (i := 94) rfl) rfl
theorem W1_95 : Cond.code yX5_init cX5_init 1 (Option.none : Option Jvm.ClassFile.FieldType) ∈ BIG := T1 (List.mem_of_getElem? (i := 95) rfl) rfl
theorem W1_96 : Cond.methodLink RX5 3 objectInit ∈ BIG := T1 (List.mem_of_getElem? (i := 96) rfl) rfl
theorem W1_97 : Cond.fieldLink RX5 9 "ChairTooFew$Seating" "seats" "[I" ∈ BIG := T1 (List.mem_of_getElem? (i := 97) rfl) rfl
theorem W1_98 : Cond.fieldLink RX5 15 "ChairTooFew$Seating" "hastes" "[I" ∈ BIG := T1 (List.mem_of_getElem? (i := 98) rfl) rfl
theorem W1_99 : Cond.fieldLink RX5 18 "ChairTooFew$Seating" "free" "[Z" ∈ BIG := T1 (List.mem_of_getElem? (i := 99) rfl) rfl
theorem W1_100 : Cond.fieldLink RX5 22 "ChairTooFew$Seating" "walkers" "I" ∈ BIG := T1 (List.mem_of_getElem? (i := 100) rfl) rfl
theorem W1_101 : Cond.fieldLink RX5 26 "ChairTooFew$Seating" "chairs" "I" ∈ BIG := T1 (List.mem_of_getElem? (i := 101) rfl) rfl
theorem W1_102 : Cond.laysFinal RX5 "ChairTooFew$Seating" "seats" "[I" ∈ BIG := T1 (List.mem_of_getElem? (i := 102) rfl) rfl
theorem W1_104 : Cond.laysFinal RX5 "ChairTooFew$Seating" "hastes" "[I" ∈ BIG := T1 (List.mem_of_getElem? (i := 104) rfl) rfl
theorem W1_106 : Cond.laysFinal RX5 "ChairTooFew$Seating" "free" "[Z" ∈ BIG := T1 (List.mem_of_getElem? (i := 106) rfl) rfl
theorem W1_108 : Cond.lays RX5 "ChairTooFew$Seating" "walkers" "I" ∈ BIG := T1 (List.mem_of_getElem? (i := 108) rfl) rfl
theorem W1_110 : Cond.lays RX5 "ChairTooFew$Seating" "chairs" "I" ∈ BIG := T1 (List.mem_of_getElem? (i := 110) rfl) rfl
theorem W1_113 : Cond.classLink RX2 32 RX7 ∈ BIG := T1 (List.mem_of_getElem? (i := 113) rfl) rfl
theorem W1_115 : Cond.instantiable RX7 9 ∈ BIG := T1 (List.mem_of_getElem? (i := 115) rfl) rfl
theorem W1_116 : Cond.methodLinkNest RX2 59 yX7_init "ChairTooFew" ∈ lw_tbl := U1 (List.mem_of_getElem? (i := 116) rfl)
theorem W1_117 : Cond.instanceMethod yX7_init ∈ BIG := T1 (List.mem_of_getElem? (i := 117) rfl) rfl
theorem W1_118 : Cond.code yX7_init cX7_init 1 (Option.none : Option Jvm.ClassFile.FieldType) ∈ BIG := T1 (List.mem_of_getElem? (i := 118) rfl) rfl
theorem W1_119 : Cond.methodLink RX7 1 objectInit ∈ BIG := T1 (List.mem_of_getElem? (i := 119) rfl) rfl
theorem W1_120 : Cond.fieldLink RX7 7 "ChairTooFew$Walker" "place" "I" ∈ BIG := T1 (List.mem_of_getElem? (i := 120) rfl) rfl
theorem W1_121 : Cond.fieldLink RX5 69 "ChairTooFew$Walker" "place" "I" ∈ BIG := T1 (List.mem_of_getElem? (i := 121) rfl) rfl
theorem W1_122 : Cond.fieldLink RX8 142 "ChairTooFew$Walker" "place" "I" ∈ BIG := T1 (List.mem_of_getElem? (i := 122) rfl) rfl
theorem W1_123 : Cond.fieldLink RX0 130 "ChairTooFew$Walker" "place" "I" ∈ BIG := T1 (List.mem_of_getElem? (i := 123) rfl) rfl
theorem W1_124 : Cond.fieldLink RX2 121 "ChairTooFew$Walker" "place" "I" ∈ BIG := T1 (List.mem_of_getElem? (i := 124) rfl) rfl
theorem W1_125 : Cond.fieldLink RX7 13 "ChairTooFew$Walker" "parts" "I" ∈ BIG := T1 (List.mem_of_getElem? (i := 125) rfl) rfl
theorem W1_126 : Cond.fieldLink RX2 118 "ChairTooFew$Walker" "parts" "I" ∈ BIG := T1 (List.mem_of_getElem? (i := 126) rfl) rfl
theorem W1_127 : Cond.fieldLink RX7 16 "ChairTooFew$Walker" "in" "Z" ∈ BIG := T1 (List.mem_of_getElem? (i := 127) rfl) rfl
theorem W1_128 : Cond.fieldLink RX2 76 "ChairTooFew$Walker" "in" "Z" ∈ BIG := T1 (List.mem_of_getElem? (i := 128) rfl) rfl
theorem W1_129 : Cond.fieldLink RX5 76 "ChairTooFew$Walker" "in" "Z" ∈ BIG := T1 (List.mem_of_getElem? (i := 129) rfl) rfl
theorem W1_130 : Cond.fieldLink RX7 20 "ChairTooFew$Walker" "kind" "I" ∈ BIG := T1 (List.mem_of_getElem? (i := 130) rfl) rfl
theorem W1_131 : Cond.fieldLink RX5 42 "ChairTooFew$Walker" "kind" "I" ∈ BIG := T1 (List.mem_of_getElem? (i := 131) rfl) rfl
theorem W1_132 : Cond.fieldLink RX7 23 "ChairTooFew$Walker" "fast" "I" ∈ BIG := T1 (List.mem_of_getElem? (i := 132) rfl) rfl
theorem W1_133 : Cond.fieldLink RX2 127 "ChairTooFew$Walker" "fast" "I" ∈ BIG := T1 (List.mem_of_getElem? (i := 133) rfl) rfl
theorem W1_134 : Cond.fieldLink RX7 26 "ChairTooFew$Walker" "slow" "I" ∈ BIG := T1 (List.mem_of_getElem? (i := 134) rfl) rfl
theorem W1_135 : Cond.fieldLink RX0 57 "ChairTooFew$Walker" "slow" "I" ∈ BIG := T1 (List.mem_of_getElem? (i := 135) rfl) rfl
theorem W1_136 : Cond.fieldLink RX2 124 "ChairTooFew$Walker" "slow" "I" ∈ BIG := T1 (List.mem_of_getElem? (i := 136) rfl) rfl
theorem W1_137 : Cond.fieldLink RX8 191 "ChairTooFew$Walker" "slow" "I" ∈ BIG := T1 (List.mem_of_getElem? (i := 137) rfl) rfl
theorem W1_138 : Cond.fieldLink RX7 29 "ChairTooFew$Walker" "reach" "I" ∈ BIG := T1 (List.mem_of_getElem? (i := 138) rfl) rfl
theorem W1_139 : Cond.fieldLink RX5 80 "ChairTooFew$Walker" "reach" "I" ∈ BIG := T1 (List.mem_of_getElem? (i := 139) rfl) rfl
theorem W1_140 : Cond.fieldLink RX0 138 "ChairTooFew$Walker" "reach" "I" ∈ BIG := T1 (List.mem_of_getElem? (i := 140) rfl) rfl
theorem W1_141 : Cond.fieldLink RX7 32 "ChairTooFew$Walker" "size" "I" ∈ BIG := T1 (List.mem_of_getElem? (i := 141) rfl) rfl
theorem W1_142 : Cond.fieldLink RX7 35 "ChairTooFew$Walker" "manners" "I" ∈ BIG := T1 (List.mem_of_getElem? (i := 142) rfl) rfl
theorem W1_143 : Cond.lays RX7 "ChairTooFew$Walker" "place" "I" ∈ BIG := T1 (List.mem_of_getElem? (i := 143) rfl) rfl
theorem W1_145 : Cond.lays RX7 "ChairTooFew$Walker" "parts" "I" ∈ BIG := T1 (List.mem_of_getElem? (i := 145) rfl) rfl
theorem W1_147 : Cond.lays RX7 "ChairTooFew$Walker" "in" "Z" ∈ BIG := T1 (List.mem_of_getElem? (i := 147) rfl) rfl
theorem W1_149 : Cond.lays RX7 "ChairTooFew$Walker" "kind" "I" ∈ BIG := T1 (List.mem_of_getElem? (i := 149) rfl) rfl
theorem W1_151 : Cond.lays RX7 "ChairTooFew$Walker" "fast" "I" ∈ BIG := T1 (List.mem_of_getElem? (i := 151) rfl) rfl
theorem W1_153 : Cond.lays RX7 "ChairTooFew$Walker" "slow" "I" ∈ BIG := T1 (List.mem_of_getElem? (i := 153) rfl) rfl
theorem W1_155 : Cond.lays RX7 "ChairTooFew$Walker" "reach" "I" ∈ BIG := T1 (List.mem_of_getElem? (i := 155) rfl) rfl
theorem W1_157 : Cond.lays RX7 "ChairTooFew$Walker" "size" "I" ∈ BIG := T1 (List.mem_of_getElem? (i := 157) rfl) rfl
theorem W1_159 : Cond.lays RX7 "ChairTooFew$Walker" "manners" "I" ∈ BIG := T1 (List.mem_of_getElem? (i := 159) rfl) rfl
theorem W1_162 : Cond.fieldLink RX2 12 "ChairTooFew$Party" "ring" "LChairTooFew$Ring;" ∈ BIG := T1 (List.mem_of_getElem? (i := 162) rfl) rfl
theorem W1_163 : Cond.fieldLink RX5 64 "ChairTooFew$Party" "ring" "LChairTooFew$Ring;" ∈ BIG := T1 (List.mem_of_getElem? (i := 163) rfl) rfl
theorem W1_164 : Cond.fieldLink RX8 130 "ChairTooFew$Party" "ring" "LChairTooFew$Ring;" ∈ BIG := T1 (List.mem_of_getElem? (i := 164) rfl) rfl
theorem W1_165 : Cond.fieldLink RX0 122 "ChairTooFew$Party" "ring" "LChairTooFew$Ring;" ∈ BIG := T1 (List.mem_of_getElem? (i := 165) rfl) rfl
theorem W1_166 : Cond.fieldLink RX6 105 "ChairTooFew$Party" "ring" "LChairTooFew$Ring;" ∈ BIG := T1 (List.mem_of_getElem? (i := 166) rfl) rfl
theorem W1_167 : Cond.fieldLink RX2 21 "ChairTooFew$Party" "player" "LChairTooFew$Player;" ∈ BIG := T1 (List.mem_of_getElem? (i := 167) rfl) rfl
theorem W1_168 : Cond.fieldLink RX8 103 "ChairTooFew$Party" "player" "LChairTooFew$Player;" ∈ BIG := T1 (List.mem_of_getElem? (i := 168) rfl) rfl
theorem W1_169 : Cond.fieldLink RX0 97 "ChairTooFew$Party" "player" "LChairTooFew$Player;" ∈ BIG := T1 (List.mem_of_getElem? (i := 169) rfl) rfl
theorem W1_170 : Cond.fieldLink RX6 135 "ChairTooFew$Party" "player" "LChairTooFew$Player;" ∈ BIG := T1 (List.mem_of_getElem? (i := 170) rfl) rfl
theorem W1_171 : Cond.fieldLink RX2 28 "ChairTooFew$Party" "seating" "LChairTooFew$Seating;" ∈ BIG := T1 (List.mem_of_getElem? (i := 171) rfl) rfl
theorem W1_172 : Cond.fieldLink RX0 65 "ChairTooFew$Party" "seating" "LChairTooFew$Seating;" ∈ BIG := T1 (List.mem_of_getElem? (i := 172) rfl) rfl
theorem W1_173 : Cond.fieldLink RX8 168 "ChairTooFew$Party" "seating" "LChairTooFew$Seating;" ∈ BIG := T1 (List.mem_of_getElem? (i := 173) rfl) rfl
theorem W1_174 : Cond.fieldLink RX2 34 "ChairTooFew$Party" "walkers" "[LChairTooFew$Walker;" ∈ BIG := T1 (List.mem_of_getElem? (i := 174) rfl) rfl
theorem W1_175 : Cond.fieldLink RX5 37 "ChairTooFew$Party" "walkers" "[LChairTooFew$Walker;" ∈ BIG := T1 (List.mem_of_getElem? (i := 175) rfl) rfl
theorem W1_176 : Cond.fieldLink RX0 53 "ChairTooFew$Party" "walkers" "[LChairTooFew$Walker;" ∈ BIG := T1 (List.mem_of_getElem? (i := 176) rfl) rfl
theorem W1_177 : Cond.fieldLink RX8 93 "ChairTooFew$Party" "walkers" "[LChairTooFew$Walker;" ∈ BIG := T1 (List.mem_of_getElem? (i := 177) rfl) rfl
theorem W1_178 : Cond.fieldLink RX2 38 "ChairTooFew$Party" "stoodOn" "[Z" ∈ BIG := T1 (List.mem_of_getElem? (i := 178) rfl) rfl
theorem W1_179 : Cond.fieldLink RX2 42 "ChairTooFew$Party" "walkerCount" "I" ∈ BIG := T1 (List.mem_of_getElem? (i := 179) rfl) rfl
theorem W1_180 : Cond.fieldLink RX5 61 "ChairTooFew$Party" "walkerCount" "I" ∈ BIG := T1 (List.mem_of_getElem? (i := 180) rfl) rfl
theorem W1_181 : Cond.fieldLink RX6 116 "ChairTooFew$Party" "walkerCount" "I" ∈ BIG := T1 (List.mem_of_getElem? (i := 181) rfl) rfl
theorem W1_182 : Cond.fieldLink RX8 246 "ChairTooFew$Party" "walkerCount" "I" ∈ BIG := T1 (List.mem_of_getElem? (i := 182) rfl) rfl
theorem W1_183 : Cond.fieldLink RX2 46 "ChairTooFew$Party" "form" "I" ∈ BIG := T1 (List.mem_of_getElem? (i := 183) rfl) rfl
theorem W1_184 : Cond.fieldLink RX8 121 "ChairTooFew$Party" "form" "I" ∈ BIG := T1 (List.mem_of_getElem? (i := 184) rfl) rfl
theorem W1_185 : Cond.fieldLink RX0 106 "ChairTooFew$Party" "form" "I" ∈ BIG := T1 (List.mem_of_getElem? (i := 185) rfl) rfl
theorem W1_186 : Cond.fieldLink RX6 151 "ChairTooFew$Party" "form" "I" ∈ BIG := T1 (List.mem_of_getElem? (i := 186) rfl) rfl
theorem W1_187 : Cond.fieldLink RX2 49 "ChairTooFew$Party" "tenths" "I" ∈ BIG := T1 (List.mem_of_getElem? (i := 187) rfl) rfl
theorem W1_188 : Cond.fieldLink RX8 258 "ChairTooFew$Party" "tenths" "I" ∈ BIG := T1 (List.mem_of_getElem? (i := 188) rfl) rfl
theorem W1_189 : Cond.fieldLink RX2 52 "ChairTooFew$Party" "rounds" "I" ∈ BIG := T1 (List.mem_of_getElem? (i := 189) rfl) rfl
theorem W1_190 : Cond.fieldLink RX8 261 "ChairTooFew$Party" "rounds" "I" ∈ BIG := T1 (List.mem_of_getElem? (i := 190) rfl) rfl
theorem W1_191 : Cond.fieldLink RX2 55 "ChairTooFew$Party" "ended" "Z" ∈ BIG := T1 (List.mem_of_getElem? (i := 191) rfl) rfl
theorem W1_192 : Cond.fieldLink RX8 162 "ChairTooFew$Party" "ended" "Z" ∈ BIG := T1 (List.mem_of_getElem? (i := 192) rfl) rfl
theorem W1_193 : Cond.fieldLink RX0 155 "ChairTooFew$Party" "ended" "Z" ∈ BIG := T1 (List.mem_of_getElem? (i := 193) rfl) rfl
theorem W1_194 : Cond.laysFinal RX2 "ChairTooFew$Party" "ring" "LChairTooFew$Ring;" ∈ BIG := T1 (List.mem_of_getElem? (i := 194) rfl) rfl
theorem W1_196 : Cond.laysFinal RX2 "ChairTooFew$Party" "player" "LChairTooFew$Player;" ∈ BIG := T1 (List.mem_of_getElem? (i := 196) rfl) rfl
theorem W1_198 : Cond.laysFinal RX2 "ChairTooFew$Party" "seating" "LChairTooFew$Seating;" ∈ BIG := T1 (List.mem_of_getElem? (i := 198) rfl) rfl
theorem W1_200 : Cond.laysFinal RX2 "ChairTooFew$Party" "walkers" "[LChairTooFew$Walker;" ∈ BIG := T1 (List.mem_of_getElem? (i := 200) rfl) rfl
theorem W1_202 : Cond.laysFinal RX2 "ChairTooFew$Party" "stoodOn" "[Z" ∈ BIG := T1 (List.mem_of_getElem? (i := 202) rfl) rfl
theorem W1_204 : Cond.lays RX2 "ChairTooFew$Party" "walkerCount" "I" ∈ BIG := T1 (List.mem_of_getElem? (i := 204) rfl) rfl
theorem W1_206 : Cond.lays RX2 "ChairTooFew$Party" "form" "I" ∈ BIG := T1 (List.mem_of_getElem? (i := 206) rfl) rfl
theorem W1_208 : Cond.lays RX2 "ChairTooFew$Party" "tenths" "I" ∈ BIG := T1 (List.mem_of_getElem? (i := 208) rfl) rfl
theorem W1_210 : Cond.lays RX2 "ChairTooFew$Party" "rounds" "I" ∈ BIG := T1 (List.mem_of_getElem? (i := 210) rfl) rfl
theorem W1_212 : Cond.lays RX2 "ChairTooFew$Party" "ended" "Z" ∈ BIG := T1 (List.mem_of_getElem? (i := 212) rfl) rfl
theorem W1_215 : Cond.fieldLink RX0 12 "ChairTooFew$Mind" "real" "LChairTooFew$Party;" ∈ BIG := T1 (List.mem_of_getElem? (i := 215) rfl) rfl
theorem W1_216 : Cond.fieldLink RX8 16 "ChairTooFew$Mind" "real" "LChairTooFew$Party;" ∈ BIG := T1 (List.mem_of_getElem? (i := 216) rfl) rfl
theorem W1_217 : Cond.fieldLink RX0 18 "ChairTooFew$Mind" "thought" "LChairTooFew$Party;" ∈ BIG := T1 (List.mem_of_getElem? (i := 217) rfl) rfl
theorem W1_218 : Cond.fieldLink RX0 21 "ChairTooFew$Mind" "times" "[I" ∈ BIG := T1 (List.mem_of_getElem? (i := 218) rfl) rfl
theorem W1_219 : Cond.fieldLink RX0 25 "ChairTooFew$Mind" "tenthsAhead" "I" ∈ BIG := T1 (List.mem_of_getElem? (i := 219) rfl) rfl
theorem W1_220 : Cond.fieldLink RX0 29 "ChairTooFew$Mind" "roundsAhead" "I" ∈ BIG := T1 (List.mem_of_getElem? (i := 220) rfl) rfl
theorem W1_221 : Cond.laysFinal RX0 "ChairTooFew$Mind" "real" "LChairTooFew$Party;" ∈ BIG := T1 (List.mem_of_getElem? (i := 221) rfl) rfl
theorem W1_223 : Cond.laysFinal RX0 "ChairTooFew$Mind" "thought" "LChairTooFew$Party;" ∈ BIG := T1 (List.mem_of_getElem? (i := 223) rfl) rfl
theorem W1_225 : Cond.laysFinal RX0 "ChairTooFew$Mind" "times" "[I" ∈ BIG := T1 (List.mem_of_getElem? (i := 225) rfl) rfl
theorem W1_227 : Cond.lays RX0 "ChairTooFew$Mind" "tenthsAhead" "I" ∈ BIG := T1 (List.mem_of_getElem? (i := 227) rfl) rfl
theorem W1_229 : Cond.lays RX0 "ChairTooFew$Mind" "roundsAhead" "I" ∈ BIG := T1 (List.mem_of_getElem? (i := 229) rfl) rfl
theorem W1_232 : Cond.classLink RX8 21 RX2 ∈ BIG := T1 (List.mem_of_getElem? (i := 232) rfl) rfl
theorem W1_233 : Cond.methodLink RX8 23 yX2_init ∈ BIG := T1 (List.mem_of_getElem? (i := 233) rfl) rfl
theorem W1_234 : Cond.classLink RX8 27 RX1 ∈ BIG := T1 (List.mem_of_getElem? (i := 234) rfl) rfl
theorem W1_235 : Cond.instantiable RX1 2 ∈ BIG := T1 (List.mem_of_getElem? (i := 235) rfl) rfl
theorem W1_236 : Cond.methodLink RX8 29 yX1_init ∈ BIG := T1 (List.mem_of_getElem? (i := 236) rfl) rfl
theorem W1_237 : Cond.instanceMethod yX1_init ∈ BIG := T1 (List.mem_of_getElem? (i := 237) rfl) rfl
theorem W1_238 : Cond.code yX1_init cX1_init 2 (Option.none : Option Jvm.ClassFile.FieldType) ∈ BIG := T1 (List.mem_of_getElem? (i := 238) rfl) rfl
theorem W1_239 : Cond.methodLink RX1 3 objectInit ∈ BIG := T1 (List.mem_of_getElem? (i := 239) rfl) rfl
theorem W2_0 : Cond.fieldLink RX1 15 "ChairTooFew$Numbers" "numbers" "[I" ∈ BIG := T2 (List.mem_of_getElem? (i := 0) rfl) rfl
theorem W2_1 : Cond.fieldLink RX1 9 "ChairTooFew$Numbers" "length" "I" ∈ BIG := T2 (List.mem_of_getElem? (i := 1) rfl) rfl
theorem W2_2 : Cond.fieldLink RX0 141 "ChairTooFew$Numbers" "length" "I" ∈ BIG := T2 (List.mem_of_getElem? (i := 2) rfl) rfl
theorem W2_3 : Cond.fieldLink RX8 229 "ChairTooFew$Numbers" "length" "I" ∈ BIG := T2 (List.mem_of_getElem? (i := 3) rfl) rfl
theorem W2_4 : Cond.laysFinal RX1 "ChairTooFew$Numbers" "numbers" "[I" ∈ BIG := T2 (List.mem_of_getElem? (i := 4) rfl) rfl
theorem W2_6 : Cond.lays RX1 "ChairTooFew$Numbers" "length" "I" ∈ BIG := T2 (List.mem_of_getElem? (i := 6) rfl) rfl
theorem W2_9 : Cond.classLink RX8 39 RX6 ∈ BIG := T2 (List.mem_of_getElem? (i := 9) rfl) rfl
theorem W2_10 : Cond.instantiable RX6 6 ∈ BIG := T2 (List.mem_of_getElem? (i := 10) rfl) rfl
theorem W2_11 : Cond.methodLinkNest RX8 41 yX6_init "ChairTooFew" ∈ lw_tbl := U2 (List.mem_of_getElem? (i := 11) rfl)
theorem W2_12 : Cond.instanceMethod yX6_init ∈ BIG := T2 (List.mem_of_getElem? (i := 12) rfl) rfl
theorem W2_13 : Cond.code yX6_init cX6_init 1 (Option.none : Option Jvm.ClassFile.FieldType) ∈ BIG := T2 (List.mem_of_getElem? (i := 13) rfl) rfl
theorem W2_14 : Cond.methodLink RX6 3 objectInit ∈ BIG := T2 (List.mem_of_getElem? (i := 14) rfl) rfl
theorem W2_15 : Cond.fieldLink RX6 9 "ChairTooFew$Text" "bytes" "[B" ∈ BIG := T2 (List.mem_of_getElem? (i := 15) rfl) rfl
theorem W2_16 : Cond.fieldLink RX6 15 "ChairTooFew$Text" "values" "[I" ∈ BIG := T2 (List.mem_of_getElem? (i := 16) rfl) rfl
theorem W2_17 : Cond.fieldLink RX6 19 "ChairTooFew$Text" "at" "I" ∈ BIG := T2 (List.mem_of_getElem? (i := 17) rfl) rfl
theorem W2_18 : Cond.fieldLink RX6 23 "ChairTooFew$Text" "used" "I" ∈ BIG := T2 (List.mem_of_getElem? (i := 18) rfl) rfl
theorem W2_19 : Cond.fieldLink RX6 26 "ChairTooFew$Text" "length" "I" ∈ BIG := T2 (List.mem_of_getElem? (i := 19) rfl) rfl
theorem W2_20 : Cond.fieldLink RX8 58 "ChairTooFew$Text" "length" "I" ∈ BIG := T2 (List.mem_of_getElem? (i := 20) rfl) rfl
theorem W2_21 : Cond.fieldLink RX6 29 "ChairTooFew$Text" "statements" "I" ∈ BIG := T2 (List.mem_of_getElem? (i := 21) rfl) rfl
theorem W2_22 : Cond.fieldLink RX0 46 "ChairTooFew$Text" "statements" "I" ∈ BIG := T2 (List.mem_of_getElem? (i := 22) rfl) rfl
theorem W2_23 : Cond.laysFinal RX6 "ChairTooFew$Text" "bytes" "[B" ∈ BIG := T2 (List.mem_of_getElem? (i := 23) rfl) rfl
theorem W2_25 : Cond.laysFinal RX6 "ChairTooFew$Text" "values" "[I" ∈ BIG := T2 (List.mem_of_getElem? (i := 25) rfl) rfl
theorem W2_27 : Cond.lays RX6 "ChairTooFew$Text" "at" "I" ∈ BIG := T2 (List.mem_of_getElem? (i := 27) rfl) rfl
theorem W2_29 : Cond.lays RX6 "ChairTooFew$Text" "used" "I" ∈ BIG := T2 (List.mem_of_getElem? (i := 29) rfl) rfl
theorem W2_31 : Cond.lays RX6 "ChairTooFew$Text" "length" "I" ∈ BIG := T2 (List.mem_of_getElem? (i := 31) rfl) rfl
theorem W2_33 : Cond.lays RX6 "ChairTooFew$Text" "statements" "I" ∈ BIG := T2 (List.mem_of_getElem? (i := 33) rfl) rfl
theorem W2_36 : Cond.arrayClass Jvm.ClassFile.FieldType.byte ∈ BIG := T2 (List.mem_of_getElem? (i := 36) rfl) rfl
theorem W2_37 : Cond.fieldLink RX8 10 "ChairTooFew" "mind" "LChairTooFew$Mind;" ∈ BIG := T2 (List.mem_of_getElem? (i := 37) rfl) rfl
theorem W2_38 : Cond.fieldLink RX8 20 "ChairTooFew" "real" "LChairTooFew$Party;" ∈ BIG := T2 (List.mem_of_getElem? (i := 38) rfl) rfl
theorem W2_39 : Cond.fieldLink RX8 24 "ChairTooFew" "kept" "LChairTooFew$Party;" ∈ BIG := T2 (List.mem_of_getElem? (i := 39) rfl) rfl
theorem W2_40 : Cond.fieldLink RX8 32 "ChairTooFew" "stops" "LChairTooFew$Numbers;" ∈ BIG := T2 (List.mem_of_getElem? (i := 40) rfl) rfl
theorem W2_41 : Cond.fieldLink RX8 36 "ChairTooFew" "pictures" "LChairTooFew$Numbers;" ∈ BIG := T2 (List.mem_of_getElem? (i := 41) rfl) rfl
theorem W2_42 : Cond.fieldLink RX8 42 "ChairTooFew" "text" "LChairTooFew$Text;" ∈ BIG := T2 (List.mem_of_getElem? (i := 42) rfl) rfl
theorem W2_43 : Cond.fieldLink RX8 46 "ChairTooFew" "refusals" "[I" ∈ BIG := T2 (List.mem_of_getElem? (i := 43) rfl) rfl
theorem W2_44 : Cond.fieldLink RX8 50 "ChairTooFew" "imageTaken" "Z" ∈ BIG := T2 (List.mem_of_getElem? (i := 44) rfl) rfl
theorem W2_45 : Cond.laysFinal RX8 "ChairTooFew" "mind" "LChairTooFew$Mind;" ∈ BIG := T2 (List.mem_of_getElem? (i := 45) rfl) rfl
theorem W2_47 : Cond.laysFinal RX8 "ChairTooFew" "real" "LChairTooFew$Party;" ∈ BIG := T2 (List.mem_of_getElem? (i := 47) rfl) rfl
theorem W2_49 : Cond.laysFinal RX8 "ChairTooFew" "kept" "LChairTooFew$Party;" ∈ BIG := T2 (List.mem_of_getElem? (i := 49) rfl) rfl
theorem W2_51 : Cond.laysFinal RX8 "ChairTooFew" "stops" "LChairTooFew$Numbers;" ∈ BIG := T2 (List.mem_of_getElem? (i := 51) rfl) rfl
theorem W2_53 : Cond.laysFinal RX8 "ChairTooFew" "pictures" "LChairTooFew$Numbers;" ∈ BIG := T2 (List.mem_of_getElem? (i := 53) rfl) rfl
theorem W2_55 : Cond.laysFinal RX8 "ChairTooFew" "text" "LChairTooFew$Text;" ∈ BIG := T2 (List.mem_of_getElem? (i := 55) rfl) rfl
theorem W2_57 : Cond.laysFinal RX8 "ChairTooFew" "refusals" "[I" ∈ BIG := T2 (List.mem_of_getElem? (i := 57) rfl) rfl
theorem W2_59 : Cond.lays RX8 "ChairTooFew" "imageTaken" "Z" ∈ BIG := T2 (List.mem_of_getElem? (i := 59) rfl) rfl
theorem W2_62 : Cond.methodLink RL 15 yX8_feed ∈ BIG := T2 (List.mem_of_getElem? (i := 62) rfl) rfl
theorem W2_63 : Cond.instanceMethod yX8_feed ∈ BIG := T2 (List.mem_of_getElem? (i := 63) rfl) rfl
theorem W2_64 : Cond.selects RX8 yX8_feed yX8_feed ∈ BIG := T2 (List.mem_of_getElem? (i := 64) rfl) rfl
theorem W2_65 : Cond.code yX8_feed cX8_feed 4 (Option.some Jvm.ClassFile.FieldType.int) ∈ BIG := T2 (List.mem_of_getElem? (i := 65) rfl) rfl
theorem W2_66 : Cond.methodLink RX8 54 yX8_refuse ∈ BIG := T2 (List.mem_of_getElem? (i := 66) rfl) rfl
theorem W2_68 : Cond.instanceMethod yX8_refuse ∈ BIG := T2 (List.mem_of_getElem? (i := 68) rfl) rfl
theorem W2_69 : Cond.code yX8_refuse cX8_refuse 2 (Option.some Jvm.ClassFile.FieldType.int) ∈ BIG := T2 (List.mem_of_getElem? (i := 69) rfl) rfl
theorem W2_70 : Cond.methodLink RX8 62 yX6_append ∈ BIG := T2 (List.mem_of_getElem? (i := 70) rfl) rfl
theorem W2_71 : Cond.instanceMethod yX6_append ∈ BIG := T2 (List.mem_of_getElem? (i := 71) rfl) rfl
theorem W2_72 : Cond.selects RX6 yX6_append yX6_append ∈ BIG := T2 (List.mem_of_getElem? (i := 72) rfl) rfl
theorem W2_73 : Cond.code yX6_append cX6_append 5 (Option.none : Option Jvm.ClassFile.FieldType) ∈ BIG := T2 (List.mem_of_getElem? (i := 73) rfl) rfl
theorem W2_74 : Cond.methodLink RL 20 yX8_party ∈ BIG := T2 (List.mem_of_getElem? (i := 74) rfl) rfl
theorem W2_75 : Cond.instanceMethod yX8_party ∈ BIG := T2 (List.mem_of_getElem? (i := 75) rfl) rfl
theorem W2_76 : Cond.selects RX8 yX8_party yX8_party ∈ BIG := T2 (List.mem_of_getElem? (i := 76) rfl) rfl
theorem W2_77 : Cond.code yX8_party cX8_party 2 (Option.some Jvm.ClassFile.FieldType.int) ∈ BIG := T2 (List.mem_of_getElem? (i := 77) rfl) rfl
theorem W2_78 : Cond.methodLink RX8 66 yX0_readParty ∈ BIG := T2 (List.mem_of_getElem? (i := 78) rfl) rfl
theorem W2_79 : Cond.instanceMethod yX0_readParty ∈ BIG := T2 (List.mem_of_getElem? (i := 79) rfl) rfl
theorem W2_80 : Cond.selects RX0 yX0_readParty yX0_readParty ∈ BIG := T2 (List.mem_of_getElem? (i := 80) rfl) rfl
theorem W2_81 : Cond.code yX0_readParty cX0_readParty 3 (Option.some Jvm.ClassFile.FieldType.int) ∈ BIG := T2 (List.mem_of_getElem? (i := 81) rfl) rfl
theorem W2_82 : Cond.methodLink RX0 32 yX6_firstMisfit ∈ BIG := T2 (List.mem_of_getElem? (i := 82) rfl) rfl
theorem W2_83 : Cond.instanceMethod yX6_firstMisfit ∈ BIG := T2 (List.mem_of_getElem? (i := 83) rfl) rfl
theorem W2_84 : Cond.selects RX6 yX6_firstMisfit yX6_firstMisfit ∈ BIG := T2 (List.mem_of_getElem? (i := 84) rfl) rfl
theorem W2_85 : Cond.code yX6_firstMisfit cX6_firstMisfit 2 (Option.some Jvm.ClassFile.FieldType.int) ∈ BIG := T2 (List.mem_of_getElem? (i := 85) rfl) rfl
theorem W2_86 : Cond.methodLink RX6 32 yX6_begin ∈ BIG := T2 (List.mem_of_getElem? (i := 86) rfl) rfl
theorem W2_88 : Cond.instanceMethod yX6_begin ∈ BIG := T2 (List.mem_of_getElem? (i := 88) rfl) rfl
theorem W2_89 : Cond.code yX6_begin cX6_begin 1 (Option.none : Option Jvm.ClassFile.FieldType) ∈ BIG := T2 (List.mem_of_getElem? (i := 89) rfl) rfl
theorem W2_90 : Cond.methodLink RX6 35 yX6_readStatement ∈ BIG := T2 (List.mem_of_getElem? (i := 90) rfl) rfl
theorem W2_92 : Cond.instanceMethod yX6_readStatement ∈ BIG := T2 (List.mem_of_getElem? (i := 92) rfl) rfl
theorem W2_93 : Cond.code yX6_readStatement cX6_readStatement 3 (Option.some Jvm.ClassFile.FieldType.boolean) ∈ BIG := T2 (List.mem_of_getElem? (i := 93) rfl) rfl
theorem W2_94 : Cond.methodLink RX6 39 yX6_signAhead ∈ BIG := T2 (List.mem_of_getElem? (i := 94) rfl) rfl
theorem W2_96 : Cond.instanceMethod yX6_signAhead ∈ BIG := T2 (List.mem_of_getElem? (i := 96) rfl) rfl
theorem W2_97 : Cond.code yX6_signAhead cX6_signAhead 1 (Option.some Jvm.ClassFile.FieldType.int) ∈ BIG := T2 (List.mem_of_getElem? (i := 97) rfl) rfl
theorem W2_98 : Cond.methodLink RX6 47 yX6_shapeOf ∈ BIG := T2 (List.mem_of_getElem? (i := 98) rfl) rfl
theorem W2_99 : Cond.static yX6_shapeOf ∈ BIG := T2 (List.mem_of_getElem? (i := 99) rfl) rfl
theorem W2_100 : Cond.code yX6_shapeOf cX6_shapeOf 1 (Option.some (Jvm.ClassFile.FieldType.object "java/lang/String")) ∈ BIG := T2 (List.mem_of_getElem? (i := 100) rfl) rfl
theorem W2_101 : Cond.stringRef RX6 66 "n#;" ∈ lw_tbl := U2 (List.mem_of_getElem? (i := 101) rfl)
theorem W2_102 : Cond.stringRef RX6 68 "c#;" ∈ lw_tbl := U2 (List.mem_of_getElem? (i := 102) rfl)
theorem W2_103 : Cond.stringRef RX6 70 "w#,d,#;" ∈ lw_tbl := U2 (List.mem_of_getElem? (i := 103) rfl)
theorem W2_104 : Cond.stringRef RX6 72 "pd,#;" ∈ lw_tbl := U2 (List.mem_of_getElem? (i := 104) rfl)
theorem W2_105 : Cond.stringRef RX6 74 "fd;" ∈ lw_tbl := U2 (List.mem_of_getElem? (i := 105) rfl)
theorem W2_106 : Cond.stringRef RX6 76 "" ∈ lw_tbl := U2 (List.mem_of_getElem? (i := 106) rfl)
theorem W2_107 : Cond.methodLink RX6 51 yJ0_length_8abf5 ∈ BIG := T2 (List.mem_of_getElem? (i := 107) rfl) rfl
theorem W2_108 : Cond.instanceMethod yJ0_length_8abf5 ∈ BIG := T2 (List.mem_of_getElem? (i := 108) rfl) rfl
theorem W2_109 : Cond.selects RJ0 yJ0_length_8abf5 yJ0_length_8abf5 ∈ BIG := T2 (List.mem_of_getElem? (i := 109) rfl) rfl
theorem W2_110 : Cond.code yJ0_length_8abf5 cJ0_length_8abf5 1 (Option.some Jvm.ClassFile.FieldType.int) ∈ BIG := T2 (List.mem_of_getElem? (i := 110) rfl) rfl
theorem W2_111 : Cond.methodLink RJ0 335 yJ0_coder_7d493 ∈ BIG := T2 (List.mem_of_getElem? (i := 111) rfl) rfl
theorem W2_112 : Cond.instanceMethod yJ0_coder_7d493 ∈ BIG := T2 (List.mem_of_getElem? (i := 112) rfl) rfl
theorem W2_113 : Cond.selects RJ0 yJ0_coder_7d493 yJ0_coder_7d493 ∈ BIG := T2 (List.mem_of_getElem? (i := 113) rfl) rfl
theorem W2_114 : Cond.code yJ0_coder_7d493 cJ0_coder_7d493 1 (Option.some Jvm.ClassFile.FieldType.byte) ∈ BIG := T2 (List.mem_of_getElem? (i := 114) rfl) rfl
theorem W2_115 : Cond.fieldLink RJ0 38 "java/lang/String" "COMPACT_STRINGS" "Z" ∈ BIG := T2 (List.mem_of_getElem? (i := 115) rfl) rfl
theorem W2_116 : Cond.laysStatic "java/lang/String" "COMPACT_STRINGS" "Z" ∈ lw_tbl := U2 (List.mem_of_getElem? (i := 116) rfl)
theorem W2_117 : Cond.methodLink RX6 55 yJ0_charAt_5068e ∈ BIG := T2 (List.mem_of_getElem? (i := 117) rfl) rfl
theorem W2_118 : Cond.instanceMethod yJ0_charAt_5068e ∈ BIG := T2 (List.mem_of_getElem? (i := 118) rfl) rfl
theorem W2_119 : Cond.selects RJ0 yJ0_charAt_5068e yJ0_charAt_5068e ∈ BIG := T2 (List.mem_of_getElem? (i := 119) rfl) rfl
theorem W2_120 : Cond.code yJ0_charAt_5068e cJ0_charAt_5068e 2 (Option.some Jvm.ClassFile.FieldType.char) ∈ BIG := T2 (List.mem_of_getElem? (i := 120) rfl) rfl
theorem W2_121 : Cond.methodLink RJ0 492 yJ0_isLatin1_aae02 ∈ BIG := T2 (List.mem_of_getElem? (i := 121) rfl) rfl
theorem W2_122 : Cond.instanceMethod yJ0_isLatin1_aae02 ∈ BIG := T2 (List.mem_of_getElem? (i := 122) rfl) rfl
theorem W2_123 : Cond.selects RJ0 yJ0_isLatin1_aae02 yJ0_isLatin1_aae02 ∈ BIG := T2 (List.mem_of_getElem? (i := 123) rfl) rfl
theorem W2_124 : Cond.code yJ0_isLatin1_aae02 cJ0_isLatin1_aae02 1 (Option.some Jvm.ClassFile.FieldType.boolean) ∈ BIG := T2 (List.mem_of_getElem? (i := 124) rfl) rfl
theorem W2_125 : Cond.methodLink RJ0 495 yJ1_charAt_3b067 ∈ BIG := T2 (List.mem_of_getElem? (i := 125) rfl) rfl
theorem W2_126 : Cond.static yJ1_charAt_3b067 ∈ BIG := T2 (List.mem_of_getElem? (i := 126) rfl) rfl
theorem W2_127 : Cond.code yJ1_charAt_3b067 cJ1_charAt_3b067 2 (Option.some Jvm.ClassFile.FieldType.char) ∈ BIG := T2 (List.mem_of_getElem? (i := 127) rfl) rfl
theorem W2_128 : Cond.methodLink RJ1 9 yJ0_checkIndex_df160 ∈ BIG := T2 (List.mem_of_getElem? (i := 128) rfl) rfl
theorem W2_129 : Cond.static yJ0_checkIndex_df160 ∈ BIG := T2 (List.mem_of_getElem? (i := 129) rfl) rfl
theorem W2_130 : Cond.code yJ0_checkIndex_df160 cJ0_checkIndex_df160 2 (Option.none : Option Jvm.ClassFile.FieldType) ∈ BIG := T2 (List.mem_of_getElem? (i := 130) rfl) rfl
theorem W2_131 : Cond.fieldLink RJ0 1053 "jdk/internal/util/Preconditions" "SIOOBE_FORMATTER" "Ljava/util/function/BiFunction;" ∈ BIG := T2 (List.mem_of_getElem? (i := 131) rfl) rfl
theorem W2_132 : Cond.laysStatic "jdk/internal/util/Preconditions" "SIOOBE_FORMATTER" "Ljava/util/function/BiFunction;" ∈ lw_tbl := U2 (List.mem_of_getElem? (i := 132) rfl)
theorem W2_133 : Cond.methodLink RJ0 1059 yJ3_checkIndex_8e157 ∈ BIG := T2 (List.mem_of_getElem? (i := 133) rfl) rfl
theorem W2_134 : Cond.static yJ3_checkIndex_8e157 ∈ BIG := T2 (List.mem_of_getElem? (i := 134) rfl) rfl
theorem W2_135 : Cond.code yJ3_checkIndex_8e157 cJ3_checkIndex_8e157 3 (Option.some Jvm.ClassFile.FieldType.int) ∈ BIG := T2 (List.mem_of_getElem? (i := 135) rfl) rfl
theorem W2_136 : Cond.methodLink RJ0 498 yJ2_charAt_3b067 ∈ BIG := T2 (List.mem_of_getElem? (i := 136) rfl) rfl
theorem W2_137 : Cond.static yJ2_charAt_3b067 ∈ BIG := T2 (List.mem_of_getElem? (i := 137) rfl) rfl
theorem W2_138 : Cond.code yJ2_charAt_3b067 cJ2_charAt_3b067 2 (Option.some Jvm.ClassFile.FieldType.char) ∈ BIG := T2 (List.mem_of_getElem? (i := 138) rfl) rfl
theorem W2_139 : Cond.methodLink RJ2 67 yJ2_checkIndex_2214a ∈ BIG := T2 (List.mem_of_getElem? (i := 139) rfl) rfl
theorem W2_140 : Cond.static yJ2_checkIndex_2214a ∈ BIG := T2 (List.mem_of_getElem? (i := 140) rfl) rfl
theorem W2_141 : Cond.code yJ2_checkIndex_2214a cJ2_checkIndex_2214a 2 (Option.none : Option Jvm.ClassFile.FieldType) ∈ BIG := T2 (List.mem_of_getElem? (i := 141) rfl) rfl
theorem W2_142 : Cond.methodLink RJ2 48 yJ2_length_9d52b ∈ BIG := T2 (List.mem_of_getElem? (i := 142) rfl) rfl
theorem W2_143 : Cond.static yJ2_length_9d52b ∈ BIG := T2 (List.mem_of_getElem? (i := 143) rfl) rfl
theorem W2_144 : Cond.code yJ2_length_9d52b cJ2_length_9d52b 1 (Option.some Jvm.ClassFile.FieldType.int) ∈ BIG := T2 (List.mem_of_getElem? (i := 144) rfl) rfl
theorem W2_145 : Cond.methodLink RJ2 414 yJ0_checkIndex_df160 ∈ BIG := T2 (List.mem_of_getElem? (i := 145) rfl) rfl
theorem W2_146 : Cond.methodLink RJ2 71 yJ2_getChar_3b067 ∈ BIG := T2 (List.mem_of_getElem? (i := 146) rfl) rfl
theorem W2_147 : Cond.static yJ2_getChar_3b067 ∈ BIG := T2 (List.mem_of_getElem? (i := 147) rfl) rfl
theorem W2_148 : Cond.code yJ2_getChar_3b067 cJ2_getChar_3b067 2 (Option.some Jvm.ClassFile.FieldType.char) ∈ BIG := T2 (List.mem_of_getElem? (i := 148) rfl) rfl
theorem W2_149 : Cond.fieldLink RJ2 44 "java/lang/StringUTF16" "$assertionsDisabled" "Z" ∈ BIG := T2 (List.mem_of_getElem? (i := 149) rfl) rfl
theorem W2_150 : Cond.laysStatic "java/lang/StringUTF16" "$assertionsDisabled" "Z" ∈ lw_tbl := U2 (List.mem_of_getElem? (i := 150) rfl)
theorem W2_151 : Cond.fieldLink RJ2 59 "java/lang/StringUTF16" "HI_BYTE_SHIFT" "I" ∈ BIG := T2 (List.mem_of_getElem? (i := 151) rfl) rfl
theorem W2_152 : Cond.laysStatic "java/lang/StringUTF16" "HI_BYTE_SHIFT" "I" ∈ lw_tbl := U2 (List.mem_of_getElem? (i := 152) rfl)
theorem W2_153 : Cond.fieldLink RJ2 63 "java/lang/StringUTF16" "LO_BYTE_SHIFT" "I" ∈ BIG := T2 (List.mem_of_getElem? (i := 153) rfl) rfl
theorem W2_154 : Cond.laysStatic "java/lang/StringUTF16" "LO_BYTE_SHIFT" "I" ∈ lw_tbl := U2 (List.mem_of_getElem? (i := 154) rfl)
theorem W2_155 : Cond.methodLink RX6 59 yX6_readPart ∈ BIG := T2 (List.mem_of_getElem? (i := 155) rfl) rfl
theorem W2_157 : Cond.instanceMethod yX6_readPart ∈ BIG := T2 (List.mem_of_getElem? (i := 157) rfl) rfl
theorem W2_158 : Cond.code yX6_readPart cX6_readPart 2 (Option.some Jvm.ClassFile.FieldType.boolean) ∈ BIG := T2 (List.mem_of_getElem? (i := 158) rfl) rfl
theorem W2_159 : Cond.methodLink RX6 78 yX6_readDigits ∈ BIG := T2 (List.mem_of_getElem? (i := 159) rfl) rfl
theorem W2_161 : Cond.instanceMethod yX6_readDigits ∈ BIG := T2 (List.mem_of_getElem? (i := 161) rfl) rfl
theorem W2_162 : Cond.code yX6_readDigits cX6_readDigits 4 (Option.some Jvm.ClassFile.FieldType.boolean) ∈ BIG := T2 (List.mem_of_getElem? (i := 162) rfl) rfl
theorem W2_163 : Cond.methodLink RX6 82 yX6_isDigit ∈ BIG := T2 (List.mem_of_getElem? (i := 163) rfl) rfl
theorem W2_164 : Cond.static yX6_isDigit ∈ BIG := T2 (List.mem_of_getElem? (i := 164) rfl) rfl
theorem W2_165 : Cond.code yX6_isDigit cX6_isDigit 1 (Option.some Jvm.ClassFile.FieldType.boolean) ∈ BIG := T2 (List.mem_of_getElem? (i := 165) rfl) rfl
theorem W2_166 : Cond.methodLink RX6 63 yJ0_isEmpty_aae02 ∈ BIG := T2 (List.mem_of_getElem? (i := 166) rfl) rfl
theorem W2_167 : Cond.instanceMethod yJ0_isEmpty_aae02 ∈ BIG := T2 (List.mem_of_getElem? (i := 167) rfl) rfl
theorem W2_168 : Cond.selects RJ0 yJ0_isEmpty_aae02 yJ0_isEmpty_aae02 ∈ BIG := T2 (List.mem_of_getElem? (i := 168) rfl) rfl
theorem W2_169 : Cond.code yJ0_isEmpty_aae02 cJ0_isEmpty_aae02 1 (Option.some Jvm.ClassFile.FieldType.boolean) ∈ BIG := T2 (List.mem_of_getElem? (i := 169) rfl) rfl
theorem W2_170 : Cond.methodLink RX0 38 yX2_become ∈ BIG := T2 (List.mem_of_getElem? (i := 170) rfl) rfl
theorem W2_171 : Cond.instanceMethod yX2_become ∈ BIG := T2 (List.mem_of_getElem? (i := 171) rfl) rfl
theorem W2_172 : Cond.selects RX2 yX2_become yX2_become ∈ BIG := T2 (List.mem_of_getElem? (i := 172) rfl) rfl
theorem W2_173 : Cond.code yX2_become cX2_become 3 (Option.none : Option Jvm.ClassFile.FieldType) ∈ BIG := T2 (List.mem_of_getElem? (i := 173) rfl) rfl
theorem W2_174 : Cond.methodLink RX2 60 yX4_become ∈ BIG := T2 (List.mem_of_getElem? (i := 174) rfl) rfl
theorem W2_175 : Cond.instanceMethod yX4_become ∈ BIG := T2 (List.mem_of_getElem? (i := 175) rfl) rfl
theorem W2_176 : Cond.selects RX4 yX4_become yX4_become ∈ BIG := T2 (List.mem_of_getElem? (i := 176) rfl) rfl
theorem W2_177 : Cond.code yX4_become cX4_become 2 (Option.none : Option Jvm.ClassFile.FieldType) ∈ BIG := T2 (List.mem_of_getElem? (i := 177) rfl) rfl
theorem W2_178 : Cond.methodLink RX4 26 arraycopyName ∈ BIG := T2 (List.mem_of_getElem? (i := 178) rfl) rfl
theorem W2_179 : Cond.static arraycopyName ∈ BIG := T2 (List.mem_of_getElem? (i := 179) rfl) rfl
theorem W2_180 : Cond.native arraycopyName ∈ BIG := T2 (List.mem_of_getElem? (i := 180) rfl) rfl
theorem W2_181 : Cond.methodLink RX2 64 yX3_become ∈ BIG := T2 (List.mem_of_getElem? (i := 181) rfl) rfl
theorem W2_182 : Cond.instanceMethod yX3_become ∈ BIG := T2 (List.mem_of_getElem? (i := 182) rfl) rfl
theorem W2_183 : Cond.selects RX3 yX3_become yX3_become ∈ BIG := T2 (List.mem_of_getElem? (i := 183) rfl) rfl
theorem W2_184 : Cond.code yX3_become cX3_become 2 (Option.none : Option Jvm.ClassFile.FieldType) ∈ BIG := T2 (List.mem_of_getElem? (i := 184) rfl) rfl
theorem W2_185 : Cond.methodLink RX2 67 yX7_become ∈ BIG := T2 (List.mem_of_getElem? (i := 185) rfl) rfl
theorem W2_186 : Cond.instanceMethod yX7_become ∈ BIG := T2 (List.mem_of_getElem? (i := 186) rfl) rfl
theorem W2_187 : Cond.selects RX7 yX7_become yX7_become ∈ BIG := T2 (List.mem_of_getElem? (i := 187) rfl) rfl
theorem W2_188 : Cond.code yX7_become cX7_become 2 (Option.none : Option Jvm.ClassFile.FieldType) ∈ BIG := T2 (List.mem_of_getElem? (i := 188) rfl) rfl
theorem W2_189 : Cond.methodLink RX2 70 arraycopyName ∈ BIG := T2 (List.mem_of_getElem? (i := 189) rfl) rfl
theorem W2_190 : Cond.methodLink RX0 42 yX6_firstImpossible ∈ BIG := T2 (List.mem_of_getElem? (i := 190) rfl) rfl
theorem W2_191 : Cond.instanceMethod yX6_firstImpossible ∈ BIG := T2 (List.mem_of_getElem? (i := 191) rfl) rfl
theorem W2_192 : Cond.selects RX6 yX6_firstImpossible yX6_firstImpossible ∈ BIG := T2 (List.mem_of_getElem? (i := 192) rfl) rfl
theorem W2_193 : Cond.code yX6_firstImpossible cX6_firstImpossible 5 (Option.some Jvm.ClassFile.FieldType.int) ∈ BIG := T2 (List.mem_of_getElem? (i := 193) rfl) rfl
theorem W2_194 : Cond.methodLink RX6 43 yX6_comesTrue ∈ BIG := T2 (List.mem_of_getElem? (i := 194) rfl) rfl
theorem W2_196 : Cond.instanceMethod yX6_comesTrue ∈ BIG := T2 (List.mem_of_getElem? (i := 196) rfl) rfl
theorem W2_197 : Cond.code yX6_comesTrue cX6_comesTrue 3 (Option.some Jvm.ClassFile.FieldType.boolean) ∈ BIG := T2 (List.mem_of_getElem? (i := 197) rfl) rfl
theorem W2_198 : Cond.methodLink RX6 85 yX6_resize ∈ BIG := T2 (List.mem_of_getElem? (i := 198) rfl) rfl
theorem W2_200 : Cond.instanceMethod yX6_resize ∈ BIG := T2 (List.mem_of_getElem? (i := 200) rfl) rfl
theorem W2_201 : Cond.code yX6_resize cX6_resize 3 (Option.some Jvm.ClassFile.FieldType.boolean) ∈ BIG := T2 (List.mem_of_getElem? (i := 201) rfl) rfl
theorem W2_202 : Cond.methodLinkNest RX6 101 yX8_whyNotWithin "ChairTooFew" ∈ lw_tbl := U2 (List.mem_of_getElem? (i := 202) rfl)
theorem W2_203 : Cond.static yX8_whyNotWithin ∈ BIG := T2 (List.mem_of_getElem? (i := 203) rfl) rfl
theorem W2_204 : Cond.code yX8_whyNotWithin cX8_whyNotWithin 3 (Option.some Jvm.ClassFile.FieldType.int) ∈ BIG := T2 (List.mem_of_getElem? (i := 204) rfl) rfl
theorem W2_205 : Cond.methodLink RX6 89 yX6_seatMore ∈ BIG := T2 (List.mem_of_getElem? (i := 205) rfl) rfl
theorem W2_207 : Cond.instanceMethod yX6_seatMore ∈ BIG := T2 (List.mem_of_getElem? (i := 207) rfl) rfl
theorem W2_208 : Cond.code yX6_seatMore cX6_seatMore 3 (Option.some Jvm.ClassFile.FieldType.boolean) ∈ BIG := T2 (List.mem_of_getElem? (i := 208) rfl) rfl
theorem W2_209 : Cond.methodLink RX6 122 yX2_whyNoChair ∈ BIG := T2 (List.mem_of_getElem? (i := 209) rfl) rfl
theorem W2_210 : Cond.instanceMethod yX2_whyNoChair ∈ BIG := T2 (List.mem_of_getElem? (i := 210) rfl) rfl
theorem W2_211 : Cond.selects RX2 yX2_whyNoChair yX2_whyNoChair ∈ BIG := T2 (List.mem_of_getElem? (i := 211) rfl) rfl
theorem W2_212 : Cond.code yX2_whyNoChair cX2_whyNoChair 2 (Option.some Jvm.ClassFile.FieldType.int) ∈ BIG := T2 (List.mem_of_getElem? (i := 212) rfl) rfl
theorem W2_213 : Cond.methodLink RX2 90 yX4_isPlace ∈ BIG := T2 (List.mem_of_getElem? (i := 213) rfl) rfl
theorem W2_214 : Cond.instanceMethod yX4_isPlace ∈ BIG := T2 (List.mem_of_getElem? (i := 214) rfl) rfl
theorem W2_215 : Cond.selects RX4 yX4_isPlace yX4_isPlace ∈ BIG := T2 (List.mem_of_getElem? (i := 215) rfl) rfl
theorem W2_216 : Cond.code yX4_isPlace cX4_isPlace 2 (Option.some Jvm.ClassFile.FieldType.boolean) ∈ BIG := T2 (List.mem_of_getElem? (i := 216) rfl) rfl
theorem W2_217 : Cond.methodLink RX2 93 yX4_hasChair ∈ BIG := T2 (List.mem_of_getElem? (i := 217) rfl) rfl
theorem W2_218 : Cond.instanceMethod yX4_hasChair ∈ BIG := T2 (List.mem_of_getElem? (i := 218) rfl) rfl
theorem W2_219 : Cond.selects RX4 yX4_hasChair yX4_hasChair ∈ BIG := T2 (List.mem_of_getElem? (i := 219) rfl) rfl
theorem W2_220 : Cond.code yX4_hasChair cX4_hasChair 2 (Option.some Jvm.ClassFile.FieldType.boolean) ∈ BIG := T2 (List.mem_of_getElem? (i := 220) rfl) rfl
theorem W2_221 : Cond.methodLink RX6 126 yX2_addChair ∈ BIG := T2 (List.mem_of_getElem? (i := 221) rfl) rfl
theorem W2_222 : Cond.instanceMethod yX2_addChair ∈ BIG := T2 (List.mem_of_getElem? (i := 222) rfl) rfl
theorem W2_223 : Cond.selects RX2 yX2_addChair yX2_addChair ∈ BIG := T2 (List.mem_of_getElem? (i := 223) rfl) rfl
theorem W2_224 : Cond.code yX2_addChair cX2_addChair 2 (Option.some Jvm.ClassFile.FieldType.int) ∈ BIG := T2 (List.mem_of_getElem? (i := 224) rfl) rfl
theorem W2_225 : Cond.methodLink RX2 96 yX4_putChair ∈ BIG := T2 (List.mem_of_getElem? (i := 225) rfl) rfl
theorem W2_226 : Cond.instanceMethod yX4_putChair ∈ BIG := T2 (List.mem_of_getElem? (i := 226) rfl) rfl
theorem W2_227 : Cond.selects RX4 yX4_putChair yX4_putChair ∈ BIG := T2 (List.mem_of_getElem? (i := 227) rfl) rfl
theorem W2_228 : Cond.code yX4_putChair cX4_putChair 3 (Option.none : Option Jvm.ClassFile.FieldType) ∈ BIG := T2 (List.mem_of_getElem? (i := 228) rfl) rfl
theorem W2_229 : Cond.methodLink RX6 92 yX6_walkerMore ∈ BIG := T2 (List.mem_of_getElem? (i := 229) rfl) rfl
theorem W2_231 : Cond.instanceMethod yX6_walkerMore ∈ BIG := T2 (List.mem_of_getElem? (i := 231) rfl) rfl
theorem W2_232 : Cond.code yX6_walkerMore cX6_walkerMore 3 (Option.some Jvm.ClassFile.FieldType.boolean) ∈ BIG := T2 (List.mem_of_getElem? (i := 232) rfl) rfl
theorem W2_233 : Cond.methodLink RX6 129 yX2_whyNoWalker ∈ BIG := T2 (List.mem_of_getElem? (i := 233) rfl) rfl
theorem W2_234 : Cond.instanceMethod yX2_whyNoWalker ∈ BIG := T2 (List.mem_of_getElem? (i := 234) rfl) rfl
theorem W2_235 : Cond.selects RX2 yX2_whyNoWalker yX2_whyNoWalker ∈ BIG := T2 (List.mem_of_getElem? (i := 235) rfl) rfl
theorem W2_236 : Cond.code yX2_whyNoWalker cX2_whyNoWalker 5 (Option.some Jvm.ClassFile.FieldType.int) ∈ BIG := T2 (List.mem_of_getElem? (i := 236) rfl) rfl
theorem W2_237 : Cond.methodLinkNest RX2 100 yX8_whyNotWithin "ChairTooFew" ∈ lw_tbl := U2 (List.mem_of_getElem? (i := 237) rfl)
theorem W2_238 : Cond.methodLink RX2 104 yX2_isStoodOn ∈ BIG := T2 (List.mem_of_getElem? (i := 238) rfl) rfl
theorem W2_239 : Cond.instanceMethod yX2_isStoodOn ∈ BIG := T2 (List.mem_of_getElem? (i := 239) rfl) rfl
theorem W3_0 : Cond.selects RX2 yX2_isStoodOn yX2_isStoodOn ∈ BIG := T3 (List.mem_of_getElem? (i := 0) rfl) rfl
theorem W3_1 : Cond.code yX2_isStoodOn cX2_isStoodOn 2 (Option.some Jvm.ClassFile.FieldType.boolean) ∈ BIG := T3 (List.mem_of_getElem? (i := 1) rfl) rfl
theorem W3_2 : Cond.methodLink RX6 132 yX2_addWalker ∈ BIG := T3 (List.mem_of_getElem? (i := 2) rfl) rfl
theorem W3_3 : Cond.instanceMethod yX2_addWalker ∈ BIG := T3 (List.mem_of_getElem? (i := 3) rfl) rfl
theorem W3_4 : Cond.selects RX2 yX2_addWalker yX2_addWalker ∈ BIG := T3 (List.mem_of_getElem? (i := 4) rfl) rfl
theorem W3_5 : Cond.code yX2_addWalker cX2_addWalker 5 (Option.some Jvm.ClassFile.FieldType.int) ∈ BIG := T3 (List.mem_of_getElem? (i := 5) rfl) rfl
theorem W3_6 : Cond.methodLink RX2 107 yX7_arrive ∈ BIG := T3 (List.mem_of_getElem? (i := 6) rfl) rfl
theorem W3_7 : Cond.instanceMethod yX7_arrive ∈ BIG := T3 (List.mem_of_getElem? (i := 7) rfl) rfl
theorem W3_8 : Cond.selects RX7 yX7_arrive yX7_arrive ∈ BIG := T3 (List.mem_of_getElem? (i := 8) rfl) rfl
theorem W3_9 : Cond.code yX7_arrive cX7_arrive 4 (Option.none : Option Jvm.ClassFile.FieldType) ∈ BIG := T3 (List.mem_of_getElem? (i := 9) rfl) rfl
theorem W3_10 : Cond.methodLink RX2 111 yX2_mark ∈ BIG := T3 (List.mem_of_getElem? (i := 10) rfl) rfl
theorem W3_12 : Cond.instanceMethod yX2_mark ∈ BIG := T3 (List.mem_of_getElem? (i := 12) rfl) rfl
theorem W3_13 : Cond.code yX2_mark cX2_mark 3 (Option.none : Option Jvm.ClassFile.FieldType) ∈ BIG := T3 (List.mem_of_getElem? (i := 13) rfl) rfl
theorem W3_14 : Cond.methodLink RX6 95 yX6_newPlayer ∈ BIG := T3 (List.mem_of_getElem? (i := 14) rfl) rfl
theorem W3_16 : Cond.instanceMethod yX6_newPlayer ∈ BIG := T3 (List.mem_of_getElem? (i := 16) rfl) rfl
theorem W3_17 : Cond.code yX6_newPlayer cX6_newPlayer 3 (Option.some Jvm.ClassFile.FieldType.boolean) ∈ BIG := T3 (List.mem_of_getElem? (i := 17) rfl) rfl
theorem W3_18 : Cond.methodLink RX6 139 yX3_whyNot ∈ BIG := T3 (List.mem_of_getElem? (i := 18) rfl) rfl
theorem W3_19 : Cond.instanceMethod yX3_whyNot ∈ BIG := T3 (List.mem_of_getElem? (i := 19) rfl) rfl
theorem W3_20 : Cond.selects RX3 yX3_whyNot yX3_whyNot ∈ BIG := T3 (List.mem_of_getElem? (i := 20) rfl) rfl
theorem W3_21 : Cond.code yX3_whyNot cX3_whyNot 3 (Option.some Jvm.ClassFile.FieldType.int) ∈ BIG := T3 (List.mem_of_getElem? (i := 21) rfl) rfl
theorem W3_22 : Cond.methodLinkNest RX3 21 yX8_whyNotWithin "ChairTooFew" ∈ lw_tbl := U3 (List.mem_of_getElem? (i := 22) rfl)
theorem W3_23 : Cond.methodLink RX6 98 yX6_newForm ∈ BIG := T3 (List.mem_of_getElem? (i := 23) rfl) rfl
theorem W3_25 : Cond.instanceMethod yX6_newForm ∈ BIG := T3 (List.mem_of_getElem? (i := 25) rfl) rfl
theorem W3_26 : Cond.code yX6_newForm cX6_newForm 3 (Option.some Jvm.ClassFile.FieldType.boolean) ∈ BIG := T3 (List.mem_of_getElem? (i := 26) rfl) rfl
theorem W3_27 : Cond.methodLink RL 25 yX8_chair ∈ BIG := T3 (List.mem_of_getElem? (i := 27) rfl) rfl
theorem W3_28 : Cond.instanceMethod yX8_chair ∈ BIG := T3 (List.mem_of_getElem? (i := 28) rfl) rfl
theorem W3_29 : Cond.selects RX8 yX8_chair yX8_chair ∈ BIG := T3 (List.mem_of_getElem? (i := 29) rfl) rfl
theorem W3_30 : Cond.code yX8_chair cX8_chair 3 (Option.some Jvm.ClassFile.FieldType.int) ∈ BIG := T3 (List.mem_of_getElem? (i := 30) rfl) rfl
theorem W3_31 : Cond.methodLink RX8 70 yX2_whyNoChair ∈ BIG := T3 (List.mem_of_getElem? (i := 31) rfl) rfl
theorem W3_32 : Cond.methodLink RX8 73 yX2_addChair ∈ BIG := T3 (List.mem_of_getElem? (i := 32) rfl) rfl
theorem W3_33 : Cond.methodLink RL 30 yX8_walker ∈ BIG := T3 (List.mem_of_getElem? (i := 33) rfl) rfl
theorem W3_34 : Cond.instanceMethod yX8_walker ∈ BIG := T3 (List.mem_of_getElem? (i := 34) rfl) rfl
theorem W3_35 : Cond.selects RX8 yX8_walker yX8_walker ∈ BIG := T3 (List.mem_of_getElem? (i := 35) rfl) rfl
theorem W3_36 : Cond.code yX8_walker cX8_walker 5 (Option.some Jvm.ClassFile.FieldType.int) ∈ BIG := T3 (List.mem_of_getElem? (i := 36) rfl) rfl
theorem W3_37 : Cond.methodLink RX8 76 yX2_whyNoWalker ∈ BIG := T3 (List.mem_of_getElem? (i := 37) rfl) rfl
theorem W3_38 : Cond.methodLink RX8 80 yX2_addWalker ∈ BIG := T3 (List.mem_of_getElem? (i := 38) rfl) rfl
theorem W3_39 : Cond.methodLink RL 35 yX8_set ∈ BIG := T3 (List.mem_of_getElem? (i := 39) rfl) rfl
theorem W3_40 : Cond.instanceMethod yX8_set ∈ BIG := T3 (List.mem_of_getElem? (i := 40) rfl) rfl
theorem W3_41 : Cond.selects RX8 yX8_set yX8_set ∈ BIG := T3 (List.mem_of_getElem? (i := 41) rfl) rfl
theorem W3_42 : Cond.code yX8_set cX8_set 4 (Option.some Jvm.ClassFile.FieldType.int) ∈ BIG := T3 (List.mem_of_getElem? (i := 42) rfl) rfl
theorem W3_43 : Cond.methodLink RX8 83 yX2_knows ∈ BIG := T3 (List.mem_of_getElem? (i := 43) rfl) rfl
theorem W3_44 : Cond.instanceMethod yX2_knows ∈ BIG := T3 (List.mem_of_getElem? (i := 44) rfl) rfl
theorem W3_45 : Cond.selects RX2 yX2_knows yX2_knows ∈ BIG := T3 (List.mem_of_getElem? (i := 45) rfl) rfl
theorem W3_46 : Cond.code yX2_knows cX2_knows 2 (Option.some Jvm.ClassFile.FieldType.boolean) ∈ BIG := T3 (List.mem_of_getElem? (i := 46) rfl) rfl
theorem W3_47 : Cond.methodLink RX8 87 yX8_leastOf ∈ BIG := T3 (List.mem_of_getElem? (i := 47) rfl) rfl
theorem W3_48 : Cond.static yX8_leastOf ∈ BIG := T3 (List.mem_of_getElem? (i := 48) rfl) rfl
theorem W3_49 : Cond.code yX8_leastOf cX8_leastOf 1 (Option.some Jvm.ClassFile.FieldType.int) ∈ BIG := T3 (List.mem_of_getElem? (i := 49) rfl) rfl
theorem W3_50 : Cond.methodLink RX8 90 yX8_greatestOf ∈ BIG := T3 (List.mem_of_getElem? (i := 50) rfl) rfl
theorem W3_51 : Cond.static yX8_greatestOf ∈ BIG := T3 (List.mem_of_getElem? (i := 51) rfl) rfl
theorem W3_52 : Cond.code yX8_greatestOf cX8_greatestOf 1 (Option.some Jvm.ClassFile.FieldType.int) ∈ BIG := T3 (List.mem_of_getElem? (i := 52) rfl) rfl
theorem W3_53 : Cond.methodLink RX8 97 yX7_change ∈ BIG := T3 (List.mem_of_getElem? (i := 53) rfl) rfl
theorem W3_54 : Cond.instanceMethod yX7_change ∈ BIG := T3 (List.mem_of_getElem? (i := 54) rfl) rfl
theorem W3_55 : Cond.selects RX7 yX7_change yX7_change ∈ BIG := T3 (List.mem_of_getElem? (i := 55) rfl) rfl
theorem W3_56 : Cond.code yX7_change cX7_change 4 (Option.some Jvm.ClassFile.FieldType.int) ∈ BIG := T3 (List.mem_of_getElem? (i := 56) rfl) rfl
theorem W3_57 : Cond.methodLink RL 39 yX8_player ∈ BIG := T3 (List.mem_of_getElem? (i := 57) rfl) rfl
theorem W3_58 : Cond.instanceMethod yX8_player ∈ BIG := T3 (List.mem_of_getElem? (i := 58) rfl) rfl
theorem W3_59 : Cond.selects RX8 yX8_player yX8_player ∈ BIG := T3 (List.mem_of_getElem? (i := 59) rfl) rfl
theorem W3_60 : Cond.code yX8_player cX8_player 5 (Option.some Jvm.ClassFile.FieldType.int) ∈ BIG := T3 (List.mem_of_getElem? (i := 60) rfl) rfl
theorem W3_61 : Cond.methodLink RX8 107 yX3_whyNot ∈ BIG := T3 (List.mem_of_getElem? (i := 61) rfl) rfl
theorem W3_62 : Cond.methodLink RL 44 yX8_form ∈ BIG := T3 (List.mem_of_getElem? (i := 62) rfl) rfl
theorem W3_63 : Cond.instanceMethod yX8_form ∈ BIG := T3 (List.mem_of_getElem? (i := 63) rfl) rfl
theorem W3_64 : Cond.selects RX8 yX8_form yX8_form ∈ BIG := T3 (List.mem_of_getElem? (i := 64) rfl) rfl
theorem W3_65 : Cond.code yX8_form cX8_form 4 (Option.some Jvm.ClassFile.FieldType.int) ∈ BIG := T3 (List.mem_of_getElem? (i := 65) rfl) rfl
theorem W3_66 : Cond.methodLink RX8 118 yX8_whyNotWithin ∈ BIG := T3 (List.mem_of_getElem? (i := 66) rfl) rfl
theorem W3_67 : Cond.methodLink RL 48 yX8_seed ∈ BIG := T3 (List.mem_of_getElem? (i := 67) rfl) rfl
theorem W3_68 : Cond.instanceMethod yX8_seed ∈ BIG := T3 (List.mem_of_getElem? (i := 68) rfl) rfl
theorem W3_69 : Cond.selects RX8 yX8_seed yX8_seed ∈ BIG := T3 (List.mem_of_getElem? (i := 69) rfl) rfl
theorem W3_70 : Cond.code yX8_seed cX8_seed 3 (Option.some Jvm.ClassFile.FieldType.int) ∈ BIG := T3 (List.mem_of_getElem? (i := 70) rfl) rfl
theorem W3_71 : Cond.methodLink RL 52 yX8_of ∈ BIG := T3 (List.mem_of_getElem? (i := 71) rfl) rfl
theorem W3_72 : Cond.instanceMethod yX8_of ∈ BIG := T3 (List.mem_of_getElem? (i := 72) rfl) rfl
theorem W3_73 : Cond.selects RX8 yX8_of yX8_of ∈ BIG := T3 (List.mem_of_getElem? (i := 73) rfl) rfl
theorem W3_74 : Cond.code yX8_of cX8_of 3 (Option.some Jvm.ClassFile.FieldType.int) ∈ BIG := T3 (List.mem_of_getElem? (i := 74) rfl) rfl
theorem W3_75 : Cond.methodLink RX8 127 yX7_tell ∈ BIG := T3 (List.mem_of_getElem? (i := 75) rfl) rfl
theorem W3_76 : Cond.instanceMethod yX7_tell ∈ BIG := T3 (List.mem_of_getElem? (i := 76) rfl) rfl
theorem W3_77 : Cond.selects RX7 yX7_tell yX7_tell ∈ BIG := T3 (List.mem_of_getElem? (i := 77) rfl) rfl
theorem W3_78 : Cond.code yX7_tell cX7_tell 2 (Option.some Jvm.ClassFile.FieldType.int) ∈ BIG := T3 (List.mem_of_getElem? (i := 78) rfl) rfl
theorem W3_79 : Cond.methodLink RL 56 yX8_has ∈ BIG := T3 (List.mem_of_getElem? (i := 79) rfl) rfl
theorem W3_80 : Cond.instanceMethod yX8_has ∈ BIG := T3 (List.mem_of_getElem? (i := 80) rfl) rfl
theorem W3_81 : Cond.selects RX8 yX8_has yX8_has ∈ BIG := T3 (List.mem_of_getElem? (i := 81) rfl) rfl
theorem W3_82 : Cond.code yX8_has cX8_has 2 (Option.some Jvm.ClassFile.FieldType.int) ∈ BIG := T3 (List.mem_of_getElem? (i := 82) rfl) rfl
theorem W3_83 : Cond.methodLink RX8 134 yX4_isPlace ∈ BIG := T3 (List.mem_of_getElem? (i := 83) rfl) rfl
theorem W3_84 : Cond.methodLink RX8 139 yX4_hasChair ∈ BIG := T3 (List.mem_of_getElem? (i := 84) rfl) rfl
theorem W3_85 : Cond.methodLink RL 60 yX8_haste ∈ BIG := T3 (List.mem_of_getElem? (i := 85) rfl) rfl
theorem W3_86 : Cond.instanceMethod yX8_haste ∈ BIG := T3 (List.mem_of_getElem? (i := 86) rfl) rfl
theorem W3_87 : Cond.selects RX8 yX8_haste yX8_haste ∈ BIG := T3 (List.mem_of_getElem? (i := 87) rfl) rfl
theorem W3_88 : Cond.code yX8_haste cX8_haste 4 (Option.some Jvm.ClassFile.FieldType.int) ∈ BIG := T3 (List.mem_of_getElem? (i := 88) rfl) rfl
theorem W3_89 : Cond.methodLink RX8 145 yX4_far ∈ BIG := T3 (List.mem_of_getElem? (i := 89) rfl) rfl
theorem W3_90 : Cond.instanceMethod yX4_far ∈ BIG := T3 (List.mem_of_getElem? (i := 90) rfl) rfl
theorem W3_91 : Cond.selects RX4 yX4_far yX4_far ∈ BIG := T3 (List.mem_of_getElem? (i := 91) rfl) rfl
theorem W3_92 : Cond.code yX4_far cX4_far 4 (Option.some Jvm.ClassFile.FieldType.int) ∈ BIG := T3 (List.mem_of_getElem? (i := 92) rfl) rfl
theorem W3_93 : Cond.methodLink RX8 148 yX7_hasteOver ∈ BIG := T3 (List.mem_of_getElem? (i := 93) rfl) rfl
theorem W3_94 : Cond.instanceMethod yX7_hasteOver ∈ BIG := T3 (List.mem_of_getElem? (i := 94) rfl) rfl
theorem W3_95 : Cond.selects RX7 yX7_hasteOver yX7_hasteOver ∈ BIG := T3 (List.mem_of_getElem? (i := 95) rfl) rfl
theorem W3_96 : Cond.code yX7_hasteOver cX7_hasteOver 4 (Option.some Jvm.ClassFile.FieldType.int) ∈ BIG := T3 (List.mem_of_getElem? (i := 96) rfl) rfl
theorem W3_97 : Cond.methodLink RL 64 yX8_go ∈ BIG := T3 (List.mem_of_getElem? (i := 97) rfl) rfl
theorem W3_98 : Cond.instanceMethod yX8_go ∈ BIG := T3 (List.mem_of_getElem? (i := 98) rfl) rfl
theorem W3_99 : Cond.selects RX8 yX8_go yX8_go ∈ BIG := T3 (List.mem_of_getElem? (i := 99) rfl) rfl
theorem W3_100 : Cond.code yX8_go cX8_go 4 (Option.some Jvm.ClassFile.FieldType.int) ∈ BIG := T3 (List.mem_of_getElem? (i := 100) rfl) rfl
theorem W3_101 : Cond.methodLink RX8 151 yX2_canGoOn ∈ BIG := T3 (List.mem_of_getElem? (i := 101) rfl) rfl
theorem W3_102 : Cond.instanceMethod yX2_canGoOn ∈ BIG := T3 (List.mem_of_getElem? (i := 102) rfl) rfl
theorem W3_103 : Cond.selects RX2 yX2_canGoOn yX2_canGoOn ∈ BIG := T3 (List.mem_of_getElem? (i := 103) rfl) rfl
theorem W3_104 : Cond.code yX2_canGoOn cX2_canGoOn 1 (Option.some Jvm.ClassFile.FieldType.boolean) ∈ BIG := T3 (List.mem_of_getElem? (i := 104) rfl) rfl
theorem W3_105 : Cond.methodLink RX2 83 yX2_countIn ∈ BIG := T3 (List.mem_of_getElem? (i := 105) rfl) rfl
theorem W3_106 : Cond.instanceMethod yX2_countIn ∈ BIG := T3 (List.mem_of_getElem? (i := 106) rfl) rfl
theorem W3_107 : Cond.selects RX2 yX2_countIn yX2_countIn ∈ BIG := T3 (List.mem_of_getElem? (i := 107) rfl) rfl
theorem W3_108 : Cond.code yX2_countIn cX2_countIn 3 (Option.some Jvm.ClassFile.FieldType.int) ∈ BIG := T3 (List.mem_of_getElem? (i := 108) rfl) rfl
theorem W3_109 : Cond.methodLink RX2 79 yX2_knowsIn ∈ BIG := T3 (List.mem_of_getElem? (i := 109) rfl) rfl
theorem W3_110 : Cond.instanceMethod yX2_knowsIn ∈ BIG := T3 (List.mem_of_getElem? (i := 110) rfl) rfl
theorem W3_111 : Cond.selects RX2 yX2_knowsIn yX2_knowsIn ∈ BIG := T3 (List.mem_of_getElem? (i := 111) rfl) rfl
theorem W3_112 : Cond.code yX2_knowsIn cX2_knowsIn 2 (Option.some Jvm.ClassFile.FieldType.boolean) ∈ BIG := T3 (List.mem_of_getElem? (i := 112) rfl) rfl
theorem W3_113 : Cond.methodLink RX8 155 yX2_passTenth ∈ BIG := T3 (List.mem_of_getElem? (i := 113) rfl) rfl
theorem W3_114 : Cond.instanceMethod yX2_passTenth ∈ BIG := T3 (List.mem_of_getElem? (i := 114) rfl) rfl
theorem W3_115 : Cond.selects RX2 yX2_passTenth yX2_passTenth ∈ BIG := T3 (List.mem_of_getElem? (i := 115) rfl) rfl
theorem W3_116 : Cond.code yX2_passTenth cX2_passTenth 2 (Option.some Jvm.ClassFile.FieldType.boolean) ∈ BIG := T3 (List.mem_of_getElem? (i := 116) rfl) rfl
theorem W3_117 : Cond.methodLink RX2 133 yX2_walkAll ∈ BIG := T3 (List.mem_of_getElem? (i := 117) rfl) rfl
theorem W3_118 : Cond.instanceMethod yX2_walkAll ∈ BIG := T3 (List.mem_of_getElem? (i := 118) rfl) rfl
theorem W3_119 : Cond.selects RX2 yX2_walkAll yX2_walkAll ∈ BIG := T3 (List.mem_of_getElem? (i := 119) rfl) rfl
theorem W3_120 : Cond.code yX2_walkAll cX2_walkAll 2 (Option.none : Option Jvm.ClassFile.FieldType) ∈ BIG := T3 (List.mem_of_getElem? (i := 120) rfl) rfl
theorem W3_121 : Cond.methodLink RX2 115 yX2_walk ∈ BIG := T3 (List.mem_of_getElem? (i := 121) rfl) rfl
theorem W3_123 : Cond.instanceMethod yX2_walk ∈ BIG := T3 (List.mem_of_getElem? (i := 123) rfl) rfl
theorem W3_124 : Cond.code yX2_walk cX2_walk 3 (Option.none : Option Jvm.ClassFile.FieldType) ∈ BIG := T3 (List.mem_of_getElem? (i := 124) rfl) rfl
theorem W3_125 : Cond.methodLink RX2 136 yX3_drawAgain ∈ BIG := T3 (List.mem_of_getElem? (i := 125) rfl) rfl
theorem W3_126 : Cond.instanceMethod yX3_drawAgain ∈ BIG := T3 (List.mem_of_getElem? (i := 126) rfl) rfl
theorem W3_127 : Cond.selects RX3 yX3_drawAgain yX3_drawAgain ∈ BIG := T3 (List.mem_of_getElem? (i := 127) rfl) rfl
theorem W3_128 : Cond.code yX3_drawAgain cX3_drawAgain 1 (Option.some Jvm.ClassFile.FieldType.int) ∈ BIG := T3 (List.mem_of_getElem? (i := 128) rfl) rfl
theorem W3_129 : Cond.constant RX3 25 (1103515245) ∈ BIG := T3 (List.mem_of_getElem? (i := 129) rfl) rfl
theorem W3_130 : Cond.constant RX3 26 (2147483647) ∈ BIG := T3 (List.mem_of_getElem? (i := 130) rfl) rfl
theorem W3_131 : Cond.constant RX3 27 (65536) ∈ BIG := T3 (List.mem_of_getElem? (i := 131) rfl) rfl
theorem W3_132 : Cond.methodLink RX2 139 yX2_isLikedAtChair ∈ BIG := T3 (List.mem_of_getElem? (i := 132) rfl) rfl
theorem W3_134 : Cond.instanceMethod yX2_isLikedAtChair ∈ BIG := T3 (List.mem_of_getElem? (i := 134) rfl) rfl
theorem W3_135 : Cond.code yX2_isLikedAtChair cX2_isLikedAtChair 2 (Option.some Jvm.ClassFile.FieldType.boolean) ∈ BIG := T3 (List.mem_of_getElem? (i := 135) rfl) rfl
theorem W3_136 : Cond.methodLink RX2 143 yX3_stopsIn ∈ BIG := T3 (List.mem_of_getElem? (i := 136) rfl) rfl
theorem W3_137 : Cond.instanceMethod yX3_stopsIn ∈ BIG := T3 (List.mem_of_getElem? (i := 137) rfl) rfl
theorem W3_138 : Cond.selects RX3 yX3_stopsIn yX3_stopsIn ∈ BIG := T3 (List.mem_of_getElem? (i := 138) rfl) rfl
theorem W3_139 : Cond.code yX3_stopsIn cX3_stopsIn 4 (Option.some Jvm.ClassFile.FieldType.boolean) ∈ BIG := T3 (List.mem_of_getElem? (i := 139) rfl) rfl
theorem W3_140 : Cond.methodLink RX8 158 yX2_endRound ∈ BIG := T3 (List.mem_of_getElem? (i := 140) rfl) rfl
theorem W3_141 : Cond.instanceMethod yX2_endRound ∈ BIG := T3 (List.mem_of_getElem? (i := 141) rfl) rfl
theorem W3_142 : Cond.selects RX2 yX2_endRound yX2_endRound ∈ BIG := T3 (List.mem_of_getElem? (i := 142) rfl) rfl
theorem W3_143 : Cond.code yX2_endRound cX2_endRound 2 (Option.some Jvm.ClassFile.FieldType.int) ∈ BIG := T3 (List.mem_of_getElem? (i := 143) rfl) rfl
theorem W3_144 : Cond.methodLink RX2 153 yX5_seatAll ∈ BIG := T3 (List.mem_of_getElem? (i := 144) rfl) rfl
theorem W3_145 : Cond.instanceMethod yX5_seatAll ∈ BIG := T3 (List.mem_of_getElem? (i := 145) rfl) rfl
theorem W3_146 : Cond.selects RX5 yX5_seatAll yX5_seatAll ∈ BIG := T3 (List.mem_of_getElem? (i := 146) rfl) rfl
theorem W3_147 : Cond.code yX5_seatAll cX5_seatAll 4 (Option.none : Option Jvm.ClassFile.FieldType) ∈ BIG := T3 (List.mem_of_getElem? (i := 147) rfl) rfl
theorem W3_148 : Cond.methodLink RX5 29 yX5_measure ∈ BIG := T3 (List.mem_of_getElem? (i := 148) rfl) rfl
theorem W3_150 : Cond.instanceMethod yX5_measure ∈ BIG := T3 (List.mem_of_getElem? (i := 150) rfl) rfl
theorem W3_151 : Cond.code yX5_measure cX5_measure 7 (Option.none : Option Jvm.ClassFile.FieldType) ∈ BIG := T3 (List.mem_of_getElem? (i := 151) rfl) rfl
theorem W3_152 : Cond.methodLink RX5 55 yX4_placeOfChair ∈ BIG := T3 (List.mem_of_getElem? (i := 152) rfl) rfl
theorem W3_153 : Cond.instanceMethod yX4_placeOfChair ∈ BIG := T3 (List.mem_of_getElem? (i := 153) rfl) rfl
theorem W3_154 : Cond.selects RX4 yX4_placeOfChair yX4_placeOfChair ∈ BIG := T3 (List.mem_of_getElem? (i := 154) rfl) rfl
theorem W3_155 : Cond.code yX4_placeOfChair cX4_placeOfChair 2 (Option.some Jvm.ClassFile.FieldType.int) ∈ BIG := T3 (List.mem_of_getElem? (i := 155) rfl) rfl
theorem W3_156 : Cond.methodLink RX5 72 yX4_far ∈ BIG := T3 (List.mem_of_getElem? (i := 156) rfl) rfl
theorem W3_157 : Cond.methodLink RX5 83 yX7_hasteOver ∈ BIG := T3 (List.mem_of_getElem? (i := 157) rfl) rfl
theorem W3_158 : Cond.constant RX5 86 (2147483647) ∈ BIG := T3 (List.mem_of_getElem? (i := 158) rfl) rfl
theorem W3_159 : Cond.methodLink RX5 33 yX5_seatLeastHaste ∈ BIG := T3 (List.mem_of_getElem? (i := 159) rfl) rfl
theorem W3_161 : Cond.instanceMethod yX5_seatLeastHaste ∈ BIG := T3 (List.mem_of_getElem? (i := 161) rfl) rfl
theorem W3_162 : Cond.code yX5_seatLeastHaste cX5_seatLeastHaste 6 (Option.some Jvm.ClassFile.FieldType.boolean) ∈ BIG := T3 (List.mem_of_getElem? (i := 162) rfl) rfl
theorem W3_163 : Cond.methodLink RX5 47 yX5_giveWay ∈ BIG := T3 (List.mem_of_getElem? (i := 163) rfl) rfl
theorem W3_165 : Cond.instanceMethod yX5_giveWay ∈ BIG := T3 (List.mem_of_getElem? (i := 165) rfl) rfl
theorem W3_166 : Cond.code yX5_giveWay cX5_giveWay 5 (Option.none : Option Jvm.ClassFile.FieldType) ∈ BIG := T3 (List.mem_of_getElem? (i := 166) rfl) rfl
theorem W3_167 : Cond.methodLink RX2 157 yX2_whoGoes ∈ BIG := T3 (List.mem_of_getElem? (i := 167) rfl) rfl
theorem W3_168 : Cond.instanceMethod yX2_whoGoes ∈ BIG := T3 (List.mem_of_getElem? (i := 168) rfl) rfl
theorem W3_169 : Cond.selects RX2 yX2_whoGoes yX2_whoGoes ∈ BIG := T3 (List.mem_of_getElem? (i := 169) rfl) rfl
theorem W3_170 : Cond.code yX2_whoGoes cX2_whoGoes 5 (Option.some Jvm.ClassFile.FieldType.int) ∈ BIG := T3 (List.mem_of_getElem? (i := 170) rfl) rfl
theorem W3_171 : Cond.methodLink RX2 173 yX5_isSeated ∈ BIG := T3 (List.mem_of_getElem? (i := 171) rfl) rfl
theorem W3_172 : Cond.instanceMethod yX5_isSeated ∈ BIG := T3 (List.mem_of_getElem? (i := 172) rfl) rfl
theorem W3_173 : Cond.selects RX5 yX5_isSeated yX5_isSeated ∈ BIG := T3 (List.mem_of_getElem? (i := 173) rfl) rfl
theorem W3_174 : Cond.code yX5_isSeated cX5_isSeated 2 (Option.some Jvm.ClassFile.FieldType.boolean) ∈ BIG := T3 (List.mem_of_getElem? (i := 174) rfl) rfl
theorem W3_175 : Cond.methodLink RX2 176 yX4_farFromChairs ∈ BIG := T3 (List.mem_of_getElem? (i := 175) rfl) rfl
theorem W3_176 : Cond.instanceMethod yX4_farFromChairs ∈ BIG := T3 (List.mem_of_getElem? (i := 176) rfl) rfl
theorem W3_177 : Cond.selects RX4 yX4_farFromChairs yX4_farFromChairs ∈ BIG := T3 (List.mem_of_getElem? (i := 177) rfl) rfl
theorem W3_178 : Cond.code yX4_farFromChairs cX4_farFromChairs 5 (Option.some Jvm.ClassFile.FieldType.int) ∈ BIG := T3 (List.mem_of_getElem? (i := 178) rfl) rfl
theorem W3_179 : Cond.methodLink RX4 32 yX4_placeOfChair ∈ BIG := T3 (List.mem_of_getElem? (i := 179) rfl) rfl
theorem W3_180 : Cond.methodLink RX4 36 yX4_far ∈ BIG := T3 (List.mem_of_getElem? (i := 180) rfl) rfl
theorem W3_181 : Cond.methodLink RX2 160 yX2_losesChair ∈ BIG := T3 (List.mem_of_getElem? (i := 181) rfl) rfl
theorem W3_182 : Cond.instanceMethod yX2_losesChair ∈ BIG := T3 (List.mem_of_getElem? (i := 182) rfl) rfl
theorem W3_183 : Cond.selects RX2 yX2_losesChair yX2_losesChair ∈ BIG := T3 (List.mem_of_getElem? (i := 183) rfl) rfl
theorem W3_184 : Cond.code yX2_losesChair cX2_losesChair 2 (Option.some Jvm.ClassFile.FieldType.boolean) ∈ BIG := T3 (List.mem_of_getElem? (i := 184) rfl) rfl
theorem W3_185 : Cond.methodLink RX2 163 yX4_leavingPlace ∈ BIG := T3 (List.mem_of_getElem? (i := 185) rfl) rfl
theorem W3_186 : Cond.instanceMethod yX4_leavingPlace ∈ BIG := T3 (List.mem_of_getElem? (i := 186) rfl) rfl
theorem W3_187 : Cond.selects RX4 yX4_leavingPlace yX4_leavingPlace ∈ BIG := T3 (List.mem_of_getElem? (i := 187) rfl) rfl
theorem W3_188 : Cond.code yX4_leavingPlace cX4_leavingPlace 2 (Option.some Jvm.ClassFile.FieldType.int) ∈ BIG := T3 (List.mem_of_getElem? (i := 188) rfl) rfl
theorem W3_189 : Cond.methodLink RX4 44 yX4_mostCrowdedChair ∈ BIG := T3 (List.mem_of_getElem? (i := 189) rfl) rfl
theorem W3_191 : Cond.instanceMethod yX4_mostCrowdedChair ∈ BIG := T3 (List.mem_of_getElem? (i := 191) rfl) rfl
theorem W3_192 : Cond.code yX4_mostCrowdedChair cX4_mostCrowdedChair 7 (Option.some Jvm.ClassFile.FieldType.int) ∈ BIG := T3 (List.mem_of_getElem? (i := 192) rfl) rfl
theorem W3_193 : Cond.constant RX4 48 (2147483647) ∈ BIG := T3 (List.mem_of_getElem? (i := 193) rfl) rfl
theorem W3_194 : Cond.methodLink RX4 49 yX4_wayOn ∈ BIG := T3 (List.mem_of_getElem? (i := 194) rfl) rfl
theorem W3_196 : Cond.instanceMethod yX4_wayOn ∈ BIG := T3 (List.mem_of_getElem? (i := 196) rfl) rfl
theorem W3_197 : Cond.code yX4_wayOn cX4_wayOn 3 (Option.some Jvm.ClassFile.FieldType.int) ∈ BIG := T3 (List.mem_of_getElem? (i := 197) rfl) rfl
theorem W3_198 : Cond.methodLink RX2 167 yX4_takeChair ∈ BIG := T3 (List.mem_of_getElem? (i := 198) rfl) rfl
theorem W3_199 : Cond.instanceMethod yX4_takeChair ∈ BIG := T3 (List.mem_of_getElem? (i := 199) rfl) rfl
theorem W3_200 : Cond.selects RX4 yX4_takeChair yX4_takeChair ∈ BIG := T3 (List.mem_of_getElem? (i := 200) rfl) rfl
theorem W3_201 : Cond.code yX4_takeChair cX4_takeChair 4 (Option.none : Option Jvm.ClassFile.FieldType) ∈ BIG := T3 (List.mem_of_getElem? (i := 201) rfl) rfl
theorem W3_202 : Cond.methodLink RX4 40 yX4_hasChair ∈ BIG := T3 (List.mem_of_getElem? (i := 202) rfl) rfl
theorem W3_203 : Cond.methodLink RX2 170 yX2_knows ∈ BIG := T3 (List.mem_of_getElem? (i := 203) rfl) rfl
theorem W3_204 : Cond.methodLink RL 68 yX8_stop ∈ BIG := T3 (List.mem_of_getElem? (i := 204) rfl) rfl
theorem W3_205 : Cond.instanceMethod yX8_stop ∈ BIG := T3 (List.mem_of_getElem? (i := 205) rfl) rfl
theorem W3_206 : Cond.selects RX8 yX8_stop yX8_stop ∈ BIG := T3 (List.mem_of_getElem? (i := 206) rfl) rfl
theorem W3_207 : Cond.code yX8_stop cX8_stop 1 (Option.some Jvm.ClassFile.FieldType.int) ∈ BIG := T3 (List.mem_of_getElem? (i := 207) rfl) rfl
theorem W3_208 : Cond.methodLink RL 72 yX8_sits ∈ BIG := T3 (List.mem_of_getElem? (i := 208) rfl) rfl
theorem W3_209 : Cond.instanceMethod yX8_sits ∈ BIG := T3 (List.mem_of_getElem? (i := 209) rfl) rfl
theorem W3_210 : Cond.selects RX8 yX8_sits yX8_sits ∈ BIG := T3 (List.mem_of_getElem? (i := 210) rfl) rfl
theorem W3_211 : Cond.code yX8_sits cX8_sits 2 (Option.some Jvm.ClassFile.FieldType.int) ∈ BIG := T3 (List.mem_of_getElem? (i := 211) rfl) rfl
theorem W3_212 : Cond.methodLink RX8 165 yX2_knowsIn ∈ BIG := T3 (List.mem_of_getElem? (i := 212) rfl) rfl
theorem W3_213 : Cond.methodLink RX8 172 yX5_seatAll ∈ BIG := T3 (List.mem_of_getElem? (i := 213) rfl) rfl
theorem W3_214 : Cond.methodLink RX8 178 yX5_placeOf ∈ BIG := T3 (List.mem_of_getElem? (i := 214) rfl) rfl
theorem W3_215 : Cond.instanceMethod yX5_placeOf ∈ BIG := T3 (List.mem_of_getElem? (i := 215) rfl) rfl
theorem W3_216 : Cond.selects RX5 yX5_placeOf yX5_placeOf ∈ BIG := T3 (List.mem_of_getElem? (i := 216) rfl) rfl
theorem W3_217 : Cond.code yX5_placeOf cX5_placeOf 3 (Option.some Jvm.ClassFile.FieldType.int) ∈ BIG := T3 (List.mem_of_getElem? (i := 217) rfl) rfl
theorem W3_218 : Cond.methodLink RX5 51 yX5_isSeated ∈ BIG := T3 (List.mem_of_getElem? (i := 218) rfl) rfl
theorem W3_219 : Cond.methodLink RL 76 yX8_would ∈ BIG := T3 (List.mem_of_getElem? (i := 219) rfl) rfl
theorem W3_220 : Cond.instanceMethod yX8_would ∈ BIG := T3 (List.mem_of_getElem? (i := 220) rfl) rfl
theorem W3_221 : Cond.selects RX8 yX8_would yX8_would ∈ BIG := T3 (List.mem_of_getElem? (i := 221) rfl) rfl
theorem W3_222 : Cond.code yX8_would cX8_would 3 (Option.some Jvm.ClassFile.FieldType.int) ∈ BIG := T3 (List.mem_of_getElem? (i := 222) rfl) rfl
theorem W3_223 : Cond.methodLink RX8 182 yX2_whoGoes ∈ BIG := T3 (List.mem_of_getElem? (i := 223) rfl) rfl
theorem W3_224 : Cond.methodLink RX8 185 yX2_losesChair ∈ BIG := T3 (List.mem_of_getElem? (i := 224) rfl) rfl
theorem W3_225 : Cond.methodLink RX8 188 yX4_leavingPlace ∈ BIG := T3 (List.mem_of_getElem? (i := 225) rfl) rfl
theorem W3_226 : Cond.methodLink RL 80 yX8_odds ∈ BIG := T3 (List.mem_of_getElem? (i := 226) rfl) rfl
theorem W3_227 : Cond.instanceMethod yX8_odds ∈ BIG := T3 (List.mem_of_getElem? (i := 227) rfl) rfl
theorem W3_228 : Cond.selects RX8 yX8_odds yX8_odds ∈ BIG := T3 (List.mem_of_getElem? (i := 228) rfl) rfl
theorem W3_229 : Cond.code yX8_odds cX8_odds 4 (Option.some Jvm.ClassFile.FieldType.int) ∈ BIG := T3 (List.mem_of_getElem? (i := 229) rfl) rfl
theorem W3_230 : Cond.methodLink RX8 194 yX0_oddsAt ∈ BIG := T3 (List.mem_of_getElem? (i := 230) rfl) rfl
theorem W3_231 : Cond.instanceMethod yX0_oddsAt ∈ BIG := T3 (List.mem_of_getElem? (i := 231) rfl) rfl
theorem W3_232 : Cond.selects RX0 yX0_oddsAt yX0_oddsAt ∈ BIG := T3 (List.mem_of_getElem? (i := 232) rfl) rfl
theorem W3_233 : Cond.code yX0_oddsAt cX0_oddsAt 6 (Option.some Jvm.ClassFile.FieldType.int) ∈ BIG := T3 (List.mem_of_getElem? (i := 233) rfl) rfl
theorem W3_234 : Cond.methodLink RX0 49 yX2_knowsIn ∈ BIG := T3 (List.mem_of_getElem? (i := 234) rfl) rfl
theorem W3_235 : Cond.methodLink RX0 62 yX0_seatBehindTenth ∈ BIG := T3 (List.mem_of_getElem? (i := 235) rfl) rfl
theorem W3_237 : Cond.instanceMethod yX0_seatBehindTenth ∈ BIG := T3 (List.mem_of_getElem? (i := 237) rfl) rfl
theorem W3_238 : Cond.code yX0_seatBehindTenth cX0_seatBehindTenth 1 (Option.none : Option Jvm.ClassFile.FieldType) ∈ BIG := T3 (List.mem_of_getElem? (i := 238) rfl) rfl
theorem W3_239 : Cond.methodLink RX0 146 yX2_walkAll ∈ BIG := T3 (List.mem_of_getElem? (i := 239) rfl) rfl
theorem W4_0 : Cond.methodLink RX0 152 yX5_seatAll ∈ BIG := T4 (List.mem_of_getElem? (i := 0) rfl) rfl
theorem W4_1 : Cond.methodLink RX0 69 yX5_isSeated ∈ BIG := T4 (List.mem_of_getElem? (i := 1) rfl) rfl
theorem W4_2 : Cond.methodLink RL 84 yX8_fair ∈ BIG := T4 (List.mem_of_getElem? (i := 2) rfl) rfl
theorem W4_3 : Cond.instanceMethod yX8_fair ∈ BIG := T4 (List.mem_of_getElem? (i := 3) rfl) rfl
theorem W4_4 : Cond.selects RX8 yX8_fair yX8_fair ∈ BIG := T4 (List.mem_of_getElem? (i := 4) rfl) rfl
theorem W4_5 : Cond.code yX8_fair cX8_fair 3 (Option.some Jvm.ClassFile.FieldType.int) ∈ BIG := T4 (List.mem_of_getElem? (i := 5) rfl) rfl
theorem W4_6 : Cond.methodLink RX8 197 yX0_unfairness ∈ BIG := T4 (List.mem_of_getElem? (i := 6) rfl) rfl
theorem W4_7 : Cond.instanceMethod yX0_unfairness ∈ BIG := T4 (List.mem_of_getElem? (i := 7) rfl) rfl
theorem W4_8 : Cond.selects RX0 yX0_unfairness yX0_unfairness ∈ BIG := T4 (List.mem_of_getElem? (i := 8) rfl) rfl
theorem W4_9 : Cond.code yX0_unfairness cX0_unfairness 5 (Option.some Jvm.ClassFile.FieldType.int) ∈ BIG := T4 (List.mem_of_getElem? (i := 9) rfl) rfl
theorem W4_10 : Cond.methodLink RX0 74 yX0_countSeatedTimes ∈ BIG := T4 (List.mem_of_getElem? (i := 10) rfl) rfl
theorem W4_12 : Cond.instanceMethod yX0_countSeatedTimes ∈ BIG := T4 (List.mem_of_getElem? (i := 12) rfl) rfl
theorem W4_13 : Cond.code yX0_countSeatedTimes cX0_countSeatedTimes 4 (Option.none : Option Jvm.ClassFile.FieldType) ∈ BIG := T4 (List.mem_of_getElem? (i := 13) rfl) rfl
theorem W4_14 : Cond.methodLink RX0 78 yJ9_max_7cf53 ∈ BIG := T4 (List.mem_of_getElem? (i := 14) rfl) rfl
theorem W4_15 : Cond.static yJ9_max_7cf53 ∈ BIG := T4 (List.mem_of_getElem? (i := 15) rfl) rfl
theorem W4_16 : Cond.code yJ9_max_7cf53 cJ9_max_7cf53 2 (Option.some Jvm.ClassFile.FieldType.int) ∈ BIG := T4 (List.mem_of_getElem? (i := 16) rfl) rfl
theorem W4_17 : Cond.methodLink RX0 84 yJ9_min_7cf53 ∈ BIG := T4 (List.mem_of_getElem? (i := 17) rfl) rfl
theorem W4_18 : Cond.static yJ9_min_7cf53 ∈ BIG := T4 (List.mem_of_getElem? (i := 18) rfl) rfl
theorem W4_19 : Cond.code yJ9_min_7cf53 cJ9_min_7cf53 2 (Option.some Jvm.ClassFile.FieldType.int) ∈ BIG := T4 (List.mem_of_getElem? (i := 19) rfl) rfl
theorem W4_20 : Cond.methodLink RL 88 yX8_bestSlow ∈ BIG := T4 (List.mem_of_getElem? (i := 20) rfl) rfl
theorem W4_21 : Cond.instanceMethod yX8_bestSlow ∈ BIG := T4 (List.mem_of_getElem? (i := 21) rfl) rfl
theorem W4_22 : Cond.selects RX8 yX8_bestSlow yX8_bestSlow ∈ BIG := T4 (List.mem_of_getElem? (i := 22) rfl) rfl
theorem W4_23 : Cond.code yX8_bestSlow cX8_bestSlow 4 (Option.some Jvm.ClassFile.FieldType.int) ∈ BIG := T4 (List.mem_of_getElem? (i := 23) rfl) rfl
theorem W4_24 : Cond.methodLink RX8 200 yX0_slowOfGreatestOdds ∈ BIG := T4 (List.mem_of_getElem? (i := 24) rfl) rfl
theorem W4_25 : Cond.instanceMethod yX0_slowOfGreatestOdds ∈ BIG := T4 (List.mem_of_getElem? (i := 25) rfl) rfl
theorem W4_26 : Cond.selects RX0 yX0_slowOfGreatestOdds yX0_slowOfGreatestOdds ∈ BIG := T4 (List.mem_of_getElem? (i := 26) rfl) rfl
theorem W4_27 : Cond.code yX0_slowOfGreatestOdds cX0_slowOfGreatestOdds 7 (Option.some Jvm.ClassFile.FieldType.int) ∈ BIG := T4 (List.mem_of_getElem? (i := 27) rfl) rfl
theorem W4_28 : Cond.methodLink RX0 87 yX0_oddsAt ∈ BIG := T4 (List.mem_of_getElem? (i := 28) rfl) rfl
theorem W4_29 : Cond.methodLink RL 92 yX8_cheat ∈ BIG := T4 (List.mem_of_getElem? (i := 29) rfl) rfl
theorem W4_30 : Cond.instanceMethod yX8_cheat ∈ BIG := T4 (List.mem_of_getElem? (i := 30) rfl) rfl
theorem W4_31 : Cond.selects RX8 yX8_cheat yX8_cheat ∈ BIG := T4 (List.mem_of_getElem? (i := 31) rfl) rfl
theorem W4_32 : Cond.code yX8_cheat cX8_cheat 4 (Option.some Jvm.ClassFile.FieldType.int) ∈ BIG := T4 (List.mem_of_getElem? (i := 32) rfl) rfl
theorem W4_33 : Cond.methodLink RX8 203 yX0_gainOfCheating ∈ BIG := T4 (List.mem_of_getElem? (i := 33) rfl) rfl
theorem W4_34 : Cond.instanceMethod yX0_gainOfCheating ∈ BIG := T4 (List.mem_of_getElem? (i := 34) rfl) rfl
theorem W4_35 : Cond.selects RX0 yX0_gainOfCheating yX0_gainOfCheating ∈ BIG := T4 (List.mem_of_getElem? (i := 35) rfl) rfl
theorem W4_36 : Cond.code yX0_gainOfCheating cX0_gainOfCheating 6 (Option.some Jvm.ClassFile.FieldType.int) ∈ BIG := T4 (List.mem_of_getElem? (i := 36) rfl) rfl
theorem W4_37 : Cond.methodLink RL 96 yX8_lasts ∈ BIG := T4 (List.mem_of_getElem? (i := 37) rfl) rfl
theorem W4_38 : Cond.instanceMethod yX8_lasts ∈ BIG := T4 (List.mem_of_getElem? (i := 38) rfl) rfl
theorem W4_39 : Cond.selects RX8 yX8_lasts yX8_lasts ∈ BIG := T4 (List.mem_of_getElem? (i := 39) rfl) rfl
theorem W4_40 : Cond.code yX8_lasts cX8_lasts 2 (Option.some Jvm.ClassFile.FieldType.int) ∈ BIG := T4 (List.mem_of_getElem? (i := 40) rfl) rfl
theorem W4_41 : Cond.methodLink RX8 206 yX0_partyAhead ∈ BIG := T4 (List.mem_of_getElem? (i := 41) rfl) rfl
theorem W4_42 : Cond.instanceMethod yX0_partyAhead ∈ BIG := T4 (List.mem_of_getElem? (i := 42) rfl) rfl
theorem W4_43 : Cond.selects RX0 yX0_partyAhead yX0_partyAhead ∈ BIG := T4 (List.mem_of_getElem? (i := 43) rfl) rfl
theorem W4_44 : Cond.code yX0_partyAhead cX0_partyAhead 2 (Option.some Jvm.ClassFile.FieldType.int) ∈ BIG := T4 (List.mem_of_getElem? (i := 44) rfl) rfl
theorem W4_45 : Cond.methodLink RX0 91 yX0_playOut ∈ BIG := T4 (List.mem_of_getElem? (i := 45) rfl) rfl
theorem W4_47 : Cond.instanceMethod yX0_playOut ∈ BIG := T4 (List.mem_of_getElem? (i := 47) rfl) rfl
theorem W4_48 : Cond.code yX0_playOut cX0_playOut 2 (Option.none : Option Jvm.ClassFile.FieldType) ∈ BIG := T4 (List.mem_of_getElem? (i := 48) rfl) rfl
theorem W4_49 : Cond.methodLink RX0 159 yX2_passTenth ∈ BIG := T4 (List.mem_of_getElem? (i := 49) rfl) rfl
theorem W4_50 : Cond.methodLink RX0 163 yX2_endRound ∈ BIG := T4 (List.mem_of_getElem? (i := 50) rfl) rfl
theorem W4_51 : Cond.methodLink RX0 94 yX2_winner ∈ BIG := T4 (List.mem_of_getElem? (i := 51) rfl) rfl
theorem W4_52 : Cond.instanceMethod yX2_winner ∈ BIG := T4 (List.mem_of_getElem? (i := 52) rfl) rfl
theorem W4_53 : Cond.selects RX2 yX2_winner yX2_winner ∈ BIG := T4 (List.mem_of_getElem? (i := 53) rfl) rfl
theorem W4_54 : Cond.code yX2_winner cX2_winner 3 (Option.some Jvm.ClassFile.FieldType.int) ∈ BIG := T4 (List.mem_of_getElem? (i := 54) rfl) rfl
theorem W4_55 : Cond.methodLink RL 100 yX8_wins ∈ BIG := T4 (List.mem_of_getElem? (i := 55) rfl) rfl
theorem W4_56 : Cond.instanceMethod yX8_wins ∈ BIG := T4 (List.mem_of_getElem? (i := 56) rfl) rfl
theorem W4_57 : Cond.selects RX8 yX8_wins yX8_wins ∈ BIG := T4 (List.mem_of_getElem? (i := 57) rfl) rfl
theorem W4_58 : Cond.code yX8_wins cX8_wins 5 (Option.some Jvm.ClassFile.FieldType.int) ∈ BIG := T4 (List.mem_of_getElem? (i := 58) rfl) rfl
theorem W4_59 : Cond.methodLink RX8 209 yX8_whyNotSeeds ∈ BIG := T4 (List.mem_of_getElem? (i := 59) rfl) rfl
theorem W4_61 : Cond.instanceMethod yX8_whyNotSeeds ∈ BIG := T4 (List.mem_of_getElem? (i := 61) rfl) rfl
theorem W4_62 : Cond.code yX8_whyNotSeeds cX8_whyNotSeeds 3 (Option.some Jvm.ClassFile.FieldType.int) ∈ BIG := T4 (List.mem_of_getElem? (i := 62) rfl) rfl
theorem W4_63 : Cond.methodLink RX8 212 yX0_timesWinner ∈ BIG := T4 (List.mem_of_getElem? (i := 63) rfl) rfl
theorem W4_64 : Cond.instanceMethod yX0_timesWinner ∈ BIG := T4 (List.mem_of_getElem? (i := 64) rfl) rfl
theorem W4_65 : Cond.selects RX0 yX0_timesWinner yX0_timesWinner ∈ BIG := T4 (List.mem_of_getElem? (i := 65) rfl) rfl
theorem W4_66 : Cond.code yX0_timesWinner cX0_timesWinner 6 (Option.some Jvm.ClassFile.FieldType.int) ∈ BIG := T4 (List.mem_of_getElem? (i := 66) rfl) rfl
theorem W4_67 : Cond.methodLink RL 104 yX8_fairest ∈ BIG := T4 (List.mem_of_getElem? (i := 67) rfl) rfl
theorem W4_68 : Cond.instanceMethod yX8_fairest ∈ BIG := T4 (List.mem_of_getElem? (i := 68) rfl) rfl
theorem W4_69 : Cond.selects RX8 yX8_fairest yX8_fairest ∈ BIG := T4 (List.mem_of_getElem? (i := 69) rfl) rfl
theorem W4_70 : Cond.code yX8_fairest cX8_fairest 4 (Option.some Jvm.ClassFile.FieldType.int) ∈ BIG := T4 (List.mem_of_getElem? (i := 70) rfl) rfl
theorem W4_71 : Cond.methodLink RX8 215 yX0_formOfMostWinners ∈ BIG := T4 (List.mem_of_getElem? (i := 71) rfl) rfl
theorem W4_72 : Cond.instanceMethod yX0_formOfMostWinners ∈ BIG := T4 (List.mem_of_getElem? (i := 72) rfl) rfl
theorem W4_73 : Cond.selects RX0 yX0_formOfMostWinners yX0_formOfMostWinners ∈ BIG := T4 (List.mem_of_getElem? (i := 73) rfl) rfl
theorem W4_74 : Cond.code yX0_formOfMostWinners cX0_formOfMostWinners 10 (Option.some Jvm.ClassFile.FieldType.int) ∈ BIG := T4 (List.mem_of_getElem? (i := 74) rfl) rfl
theorem W4_75 : Cond.methodLink RX0 109 yX0_bitOf ∈ BIG := T4 (List.mem_of_getElem? (i := 75) rfl) rfl
theorem W4_76 : Cond.static yX0_bitOf ∈ BIG := T4 (List.mem_of_getElem? (i := 76) rfl) rfl
theorem W4_77 : Cond.code yX0_bitOf cX0_bitOf 1 (Option.some Jvm.ClassFile.FieldType.int) ∈ BIG := T4 (List.mem_of_getElem? (i := 77) rfl) rfl
theorem W4_78 : Cond.methodLink RX0 113 yJ6_bitCount_0f7a4 ∈ BIG := T4 (List.mem_of_getElem? (i := 78) rfl) rfl
theorem W4_79 : Cond.static yJ6_bitCount_0f7a4 ∈ BIG := T4 (List.mem_of_getElem? (i := 79) rfl) rfl
theorem W4_80 : Cond.code yJ6_bitCount_0f7a4 cJ6_bitCount_0f7a4 1 (Option.some Jvm.ClassFile.FieldType.int) ∈ BIG := T4 (List.mem_of_getElem? (i := 80) rfl) rfl
theorem W4_81 : Cond.constant RJ6 265 (1431655765) ∈ BIG := T4 (List.mem_of_getElem? (i := 81) rfl) rfl
theorem W4_82 : Cond.constant RJ6 266 (858993459) ∈ BIG := T4 (List.mem_of_getElem? (i := 82) rfl) rfl
theorem W4_83 : Cond.constant RJ6 267 (252645135) ∈ BIG := T4 (List.mem_of_getElem? (i := 83) rfl) rfl
theorem W4_84 : Cond.methodLink RL 108 yX8_shortest ∈ BIG := T4 (List.mem_of_getElem? (i := 84) rfl) rfl
theorem W4_85 : Cond.instanceMethod yX8_shortest ∈ BIG := T4 (List.mem_of_getElem? (i := 85) rfl) rfl
theorem W4_86 : Cond.selects RX8 yX8_shortest yX8_shortest ∈ BIG := T4 (List.mem_of_getElem? (i := 86) rfl) rfl
theorem W4_87 : Cond.code yX8_shortest cX8_shortest 1 (Option.some Jvm.ClassFile.FieldType.int) ∈ BIG := T4 (List.mem_of_getElem? (i := 87) rfl) rfl
theorem W4_88 : Cond.methodLink RX8 218 yX0_kindOfFewestTenths ∈ BIG := T4 (List.mem_of_getElem? (i := 88) rfl) rfl
theorem W4_89 : Cond.instanceMethod yX0_kindOfFewestTenths ∈ BIG := T4 (List.mem_of_getElem? (i := 89) rfl) rfl
theorem W4_90 : Cond.selects RX0 yX0_kindOfFewestTenths yX0_kindOfFewestTenths ∈ BIG := T4 (List.mem_of_getElem? (i := 90) rfl) rfl
theorem W4_91 : Cond.code yX0_kindOfFewestTenths cX0_kindOfFewestTenths 4 (Option.some Jvm.ClassFile.FieldType.int) ∈ BIG := T4 (List.mem_of_getElem? (i := 91) rfl) rfl
theorem W4_92 : Cond.constant RX0 118 (2147483647) ∈ BIG := T4 (List.mem_of_getElem? (i := 92) rfl) rfl
theorem W4_93 : Cond.methodLink RL 112 yX8_row ∈ BIG := T4 (List.mem_of_getElem? (i := 93) rfl) rfl
theorem W4_94 : Cond.instanceMethod yX8_row ∈ BIG := T4 (List.mem_of_getElem? (i := 94) rfl) rfl
theorem W4_95 : Cond.selects RX8 yX8_row yX8_row ∈ BIG := T4 (List.mem_of_getElem? (i := 95) rfl) rfl
theorem W4_96 : Cond.code yX8_row cX8_row 3 (Option.some Jvm.ClassFile.FieldType.int) ∈ BIG := T4 (List.mem_of_getElem? (i := 96) rfl) rfl
theorem W4_97 : Cond.methodLink RX8 221 yX1_isFull ∈ BIG := T4 (List.mem_of_getElem? (i := 97) rfl) rfl
theorem W4_98 : Cond.instanceMethod yX1_isFull ∈ BIG := T4 (List.mem_of_getElem? (i := 98) rfl) rfl
theorem W4_99 : Cond.selects RX1 yX1_isFull yX1_isFull ∈ BIG := T4 (List.mem_of_getElem? (i := 99) rfl) rfl
theorem W4_100 : Cond.code yX1_isFull cX1_isFull 1 (Option.some Jvm.ClassFile.FieldType.boolean) ∈ BIG := T4 (List.mem_of_getElem? (i := 100) rfl) rfl
theorem W4_101 : Cond.methodLink RX8 224 yX1_append ∈ BIG := T4 (List.mem_of_getElem? (i := 101) rfl) rfl
theorem W4_102 : Cond.instanceMethod yX1_append ∈ BIG := T4 (List.mem_of_getElem? (i := 102) rfl) rfl
theorem W4_103 : Cond.selects RX1 yX1_append yX1_append ∈ BIG := T4 (List.mem_of_getElem? (i := 103) rfl) rfl
theorem W4_104 : Cond.code yX1_append cX1_append 2 (Option.some Jvm.ClassFile.FieldType.int) ∈ BIG := T4 (List.mem_of_getElem? (i := 104) rfl) rfl
theorem W4_105 : Cond.methodLink RX1 19 yX1_isFull ∈ BIG := T4 (List.mem_of_getElem? (i := 105) rfl) rfl
theorem W4_106 : Cond.methodLink RL 116 yX8_could ∈ BIG := T4 (List.mem_of_getElem? (i := 106) rfl) rfl
theorem W4_107 : Cond.instanceMethod yX8_could ∈ BIG := T4 (List.mem_of_getElem? (i := 107) rfl) rfl
theorem W4_108 : Cond.selects RX8 yX8_could yX8_could ∈ BIG := T4 (List.mem_of_getElem? (i := 108) rfl) rfl
theorem W4_109 : Cond.code yX8_could cX8_could 3 (Option.some Jvm.ClassFile.FieldType.int) ∈ BIG := T4 (List.mem_of_getElem? (i := 109) rfl) rfl
theorem W4_110 : Cond.methodLink RX8 226 yX8_couldAllBeBy ∈ BIG := T4 (List.mem_of_getElem? (i := 110) rfl) rfl
theorem W4_112 : Cond.instanceMethod yX8_couldAllBeBy ∈ BIG := T4 (List.mem_of_getElem? (i := 112) rfl) rfl
theorem W4_113 : Cond.code yX8_couldAllBeBy cX8_couldAllBeBy 4 (Option.some Jvm.ClassFile.FieldType.boolean) ∈ BIG := T4 (List.mem_of_getElem? (i := 113) rfl) rfl
theorem W4_114 : Cond.methodLink RX8 264 yX1_at ∈ BIG := T4 (List.mem_of_getElem? (i := 114) rfl) rfl
theorem W4_115 : Cond.instanceMethod yX1_at ∈ BIG := T4 (List.mem_of_getElem? (i := 115) rfl) rfl
theorem W4_116 : Cond.selects RX1 yX1_at yX1_at ∈ BIG := T4 (List.mem_of_getElem? (i := 116) rfl) rfl
theorem W4_117 : Cond.code yX1_at cX1_at 2 (Option.some Jvm.ClassFile.FieldType.int) ∈ BIG := T4 (List.mem_of_getElem? (i := 117) rfl) rfl
theorem W4_118 : Cond.methodLink RX8 267 yX3_couldStop ∈ BIG := T4 (List.mem_of_getElem? (i := 118) rfl) rfl
theorem W4_119 : Cond.instanceMethod yX3_couldStop ∈ BIG := T4 (List.mem_of_getElem? (i := 119) rfl) rfl
theorem W4_120 : Cond.selects RX3 yX3_couldStop yX3_couldStop ∈ BIG := T4 (List.mem_of_getElem? (i := 120) rfl) rfl
theorem W4_121 : Cond.code yX3_couldStop cX3_couldStop 3 (Option.some Jvm.ClassFile.FieldType.boolean) ∈ BIG := T4 (List.mem_of_getElem? (i := 121) rfl) rfl
theorem W4_122 : Cond.methodLink RL 120 yX8_next ∈ BIG := T4 (List.mem_of_getElem? (i := 122) rfl) rfl
theorem W4_123 : Cond.instanceMethod yX8_next ∈ BIG := T4 (List.mem_of_getElem? (i := 123) rfl) rfl
theorem W4_124 : Cond.selects RX8 yX8_next yX8_next ∈ BIG := T4 (List.mem_of_getElem? (i := 124) rfl) rfl
theorem W4_125 : Cond.code yX8_next cX8_next 4 (Option.some Jvm.ClassFile.FieldType.int) ∈ BIG := T4 (List.mem_of_getElem? (i := 125) rfl) rfl
theorem W4_126 : Cond.methodLink RX8 230 yX1_hundredthsUpTo ∈ BIG := T4 (List.mem_of_getElem? (i := 126) rfl) rfl
theorem W4_127 : Cond.instanceMethod yX1_hundredthsUpTo ∈ BIG := T4 (List.mem_of_getElem? (i := 127) rfl) rfl
theorem W4_128 : Cond.selects RX1 yX1_hundredthsUpTo yX1_hundredthsUpTo ∈ BIG := T4 (List.mem_of_getElem? (i := 128) rfl) rfl
theorem W4_129 : Cond.code yX1_hundredthsUpTo cX1_hundredthsUpTo 4 (Option.some Jvm.ClassFile.FieldType.int) ∈ BIG := T4 (List.mem_of_getElem? (i := 129) rfl) rfl
theorem W4_130 : Cond.methodLink RL 124 yX8_team ∈ BIG := T4 (List.mem_of_getElem? (i := 130) rfl) rfl
theorem W4_131 : Cond.instanceMethod yX8_team ∈ BIG := T4 (List.mem_of_getElem? (i := 131) rfl) rfl
theorem W4_132 : Cond.selects RX8 yX8_team yX8_team ∈ BIG := T4 (List.mem_of_getElem? (i := 132) rfl) rfl
theorem W4_133 : Cond.code yX8_team cX8_team 6 (Option.some Jvm.ClassFile.FieldType.int) ∈ BIG := T4 (List.mem_of_getElem? (i := 133) rfl) rfl
theorem W4_134 : Cond.methodLink RX8 233 yX0_teamGain ∈ BIG := T4 (List.mem_of_getElem? (i := 134) rfl) rfl
theorem W4_135 : Cond.instanceMethod yX0_teamGain ∈ BIG := T4 (List.mem_of_getElem? (i := 135) rfl) rfl
theorem W4_136 : Cond.selects RX0 yX0_teamGain yX0_teamGain ∈ BIG := T4 (List.mem_of_getElem? (i := 136) rfl) rfl
theorem W4_137 : Cond.code yX0_teamGain cX0_teamGain 10 (Option.some Jvm.ClassFile.FieldType.int) ∈ BIG := T4 (List.mem_of_getElem? (i := 137) rfl) rfl
theorem W4_138 : Cond.methodLink RX8 236 yX0_sitsWhenHeld ∈ BIG := T4 (List.mem_of_getElem? (i := 138) rfl) rfl
theorem W4_139 : Cond.instanceMethod yX0_sitsWhenHeld ∈ BIG := T4 (List.mem_of_getElem? (i := 139) rfl) rfl
theorem W4_140 : Cond.selects RX0 yX0_sitsWhenHeld yX0_sitsWhenHeld ∈ BIG := T4 (List.mem_of_getElem? (i := 140) rfl) rfl
theorem W4_141 : Cond.code yX0_sitsWhenHeld cX0_sitsWhenHeld 9 (Option.some Jvm.ClassFile.FieldType.int) ∈ BIG := T4 (List.mem_of_getElem? (i := 141) rfl) rfl
theorem W4_142 : Cond.methodLink RX0 126 yX5_placeOf ∈ BIG := T4 (List.mem_of_getElem? (i := 142) rfl) rfl
theorem W4_143 : Cond.methodLink RX0 133 yX4_far ∈ BIG := T4 (List.mem_of_getElem? (i := 143) rfl) rfl
theorem W4_144 : Cond.methodLink RL 129 yX8_film ∈ BIG := T4 (List.mem_of_getElem? (i := 144) rfl) rfl
theorem W4_145 : Cond.instanceMethod yX8_film ∈ BIG := T4 (List.mem_of_getElem? (i := 145) rfl) rfl
theorem W4_146 : Cond.selects RX8 yX8_film yX8_film ∈ BIG := T4 (List.mem_of_getElem? (i := 146) rfl) rfl
theorem W4_147 : Cond.code yX8_film cX8_film 2 (Option.some Jvm.ClassFile.FieldType.int) ∈ BIG := T4 (List.mem_of_getElem? (i := 147) rfl) rfl
theorem W4_148 : Cond.methodLink RL 133 yX8_judge ∈ BIG := T4 (List.mem_of_getElem? (i := 148) rfl) rfl
theorem W4_149 : Cond.instanceMethod yX8_judge ∈ BIG := T4 (List.mem_of_getElem? (i := 149) rfl) rfl
theorem W4_150 : Cond.selects RX8 yX8_judge yX8_judge ∈ BIG := T4 (List.mem_of_getElem? (i := 150) rfl) rfl
theorem W4_151 : Cond.code yX8_judge cX8_judge 3 (Option.some Jvm.ClassFile.FieldType.int) ∈ BIG := T4 (List.mem_of_getElem? (i := 151) rfl) rfl
theorem W4_152 : Cond.methodLink RX8 239 yX0_firstWrong ∈ BIG := T4 (List.mem_of_getElem? (i := 152) rfl) rfl
theorem W4_153 : Cond.instanceMethod yX0_firstWrong ∈ BIG := T4 (List.mem_of_getElem? (i := 153) rfl) rfl
theorem W4_154 : Cond.selects RX0 yX0_firstWrong yX0_firstWrong ∈ BIG := T4 (List.mem_of_getElem? (i := 154) rfl) rfl
theorem W4_155 : Cond.code yX0_firstWrong cX0_firstWrong 4 (Option.some Jvm.ClassFile.FieldType.int) ∈ BIG := T4 (List.mem_of_getElem? (i := 155) rfl) rfl
theorem W4_156 : Cond.methodLink RX0 149 yX1_at ∈ BIG := T4 (List.mem_of_getElem? (i := 156) rfl) rfl
theorem W4_157 : Cond.methodLink RL 137 yX8_image ∈ BIG := T4 (List.mem_of_getElem? (i := 157) rfl) rfl
theorem W4_158 : Cond.instanceMethod yX8_image ∈ BIG := T4 (List.mem_of_getElem? (i := 158) rfl) rfl
theorem W4_159 : Cond.selects RX8 yX8_image yX8_image ∈ BIG := T4 (List.mem_of_getElem? (i := 159) rfl) rfl
theorem W4_160 : Cond.code yX8_image cX8_image 1 (Option.some Jvm.ClassFile.FieldType.int) ∈ BIG := T4 (List.mem_of_getElem? (i := 160) rfl) rfl
theorem W4_161 : Cond.methodLink RX8 243 yX2_become ∈ BIG := T4 (List.mem_of_getElem? (i := 161) rfl) rfl
theorem W4_162 : Cond.methodLink RL 141 yX8_restore ∈ BIG := T4 (List.mem_of_getElem? (i := 162) rfl) rfl
theorem W4_163 : Cond.instanceMethod yX8_restore ∈ BIG := T4 (List.mem_of_getElem? (i := 163) rfl) rfl
theorem W4_164 : Cond.selects RX8 yX8_restore yX8_restore ∈ BIG := T4 (List.mem_of_getElem? (i := 164) rfl) rfl
theorem W4_165 : Cond.code yX8_restore cX8_restore 1 (Option.some Jvm.ClassFile.FieldType.int) ∈ BIG := T4 (List.mem_of_getElem? (i := 165) rfl) rfl
theorem W4_166 : Cond.methodLink RL 145 yX8_count ∈ BIG := T4 (List.mem_of_getElem? (i := 166) rfl) rfl
theorem W4_167 : Cond.instanceMethod yX8_count ∈ BIG := T4 (List.mem_of_getElem? (i := 167) rfl) rfl
theorem W4_168 : Cond.selects RX8 yX8_count yX8_count ∈ BIG := T4 (List.mem_of_getElem? (i := 168) rfl) rfl
theorem W4_169 : Cond.code yX8_count cX8_count 2 (Option.some Jvm.ClassFile.FieldType.int) ∈ BIG := T4 (List.mem_of_getElem? (i := 169) rfl) rfl
theorem W4_170 : Cond.methodLink RX8 255 yX2_countIn ∈ BIG := T4 (List.mem_of_getElem? (i := 170) rfl) rfl
theorem W4_171 : Cond.classLink RL 10 RX9 ∈ BIG := T4 (List.mem_of_getElem? (i := 171) rfl) rfl
theorem W4_172 : Cond.instantiable RX9 44 ∈ BIG := T4 (List.mem_of_getElem? (i := 172) rfl) rfl
theorem W4_173 : Cond.methodLink RL 12 yX9_init ∈ BIG := T4 (List.mem_of_getElem? (i := 173) rfl) rfl
theorem W4_174 : Cond.instanceMethod yX9_init ∈ BIG := T4 (List.mem_of_getElem? (i := 174) rfl) rfl
theorem W4_175 : Cond.code yX9_init cX9_init 1 (Option.none : Option Jvm.ClassFile.FieldType) ∈ BIG := T4 (List.mem_of_getElem? (i := 175) rfl) rfl
theorem W4_176 : Cond.methodLink RX9 1 objectInit ∈ BIG := T4 (List.mem_of_getElem? (i := 176) rfl) rfl
theorem W4_177 : Cond.fieldLink RX9 7 "ChairTooFewModel" "refused" "[I" ∈ BIG := T4 (List.mem_of_getElem? (i := 177) rfl) rfl
theorem W4_178 : Cond.fieldLink RX9 13 "ChairTooFewModel" "chair" "[I" ∈ BIG := T4 (List.mem_of_getElem? (i := 178) rfl) rfl
theorem W4_179 : Cond.fieldLink RX9 16 "ChairTooFewModel" "place" "[I" ∈ BIG := T4 (List.mem_of_getElem? (i := 179) rfl) rfl
theorem W4_180 : Cond.fieldLink RX9 19 "ChairTooFewModel" "parts" "[I" ∈ BIG := T4 (List.mem_of_getElem? (i := 180) rfl) rfl
theorem W4_181 : Cond.fieldLink RX9 22 "ChairTooFewModel" "in" "[I" ∈ BIG := T4 (List.mem_of_getElem? (i := 181) rfl) rfl
theorem W4_182 : Cond.fieldLink RX9 25 "ChairTooFewModel" "kind" "[I" ∈ BIG := T4 (List.mem_of_getElem? (i := 182) rfl) rfl
theorem W4_183 : Cond.fieldLink RX9 28 "ChairTooFewModel" "fast" "[I" ∈ BIG := T4 (List.mem_of_getElem? (i := 183) rfl) rfl
theorem W4_184 : Cond.fieldLink RX9 31 "ChairTooFewModel" "slow" "[I" ∈ BIG := T4 (List.mem_of_getElem? (i := 184) rfl) rfl
theorem W4_185 : Cond.fieldLink RX9 34 "ChairTooFewModel" "reach" "[I" ∈ BIG := T4 (List.mem_of_getElem? (i := 185) rfl) rfl
theorem W4_186 : Cond.fieldLink RX9 37 "ChairTooFewModel" "size" "[I" ∈ BIG := T4 (List.mem_of_getElem? (i := 186) rfl) rfl
theorem W4_187 : Cond.fieldLink RX9 40 "ChairTooFewModel" "manners" "[I" ∈ BIG := T4 (List.mem_of_getElem? (i := 187) rfl) rfl
theorem W4_188 : Cond.fieldLink RX9 43 "ChairTooFewModel" "places" "I" ∈ BIG := T4 (List.mem_of_getElem? (i := 188) rfl) rfl
theorem W4_189 : Cond.fieldLink RX9 86 "ChairTooFewModel" "walkers" "I" ∈ BIG := T4 (List.mem_of_getElem? (i := 189) rfl) rfl
theorem W4_190 : Cond.fieldLink RX9 126 "ChairTooFewModel" "playerKind" "I" ∈ BIG := T4 (List.mem_of_getElem? (i := 190) rfl) rfl
theorem W4_191 : Cond.fieldLink RX9 47 "ChairTooFewModel" "figure" "I" ∈ BIG := T4 (List.mem_of_getElem? (i := 191) rfl) rfl
theorem W4_192 : Cond.fieldLink RX9 129 "ChairTooFewModel" "form" "I" ∈ BIG := T4 (List.mem_of_getElem? (i := 192) rfl) rfl
theorem W4_193 : Cond.fieldLink RX9 50 "ChairTooFewModel" "lots" "I" ∈ BIG := T4 (List.mem_of_getElem? (i := 193) rfl) rfl
theorem W4_194 : Cond.fieldLink RX9 184 "ChairTooFewModel" "tenths" "I" ∈ BIG := T4 (List.mem_of_getElem? (i := 194) rfl) rfl
theorem W4_195 : Cond.fieldLink RX9 187 "ChairTooFewModel" "rounds" "I" ∈ BIG := T4 (List.mem_of_getElem? (i := 195) rfl) rfl
theorem W4_196 : Cond.fieldLink RX9 89 "ChairTooFewModel" "hasEnded" "I" ∈ BIG := T4 (List.mem_of_getElem? (i := 196) rfl) rfl
theorem W4_197 : Cond.fieldLink RX9 53 "ChairTooFewModel" "tape" "[I" ∈ BIG := T4 (List.mem_of_getElem? (i := 197) rfl) rfl
theorem W4_198 : Cond.fieldLink RX9 56 "ChairTooFewModel" "letter" "[I" ∈ BIG := T4 (List.mem_of_getElem? (i := 198) rfl) rfl
theorem W4_199 : Cond.fieldLink RX9 59 "ChairTooFewModel" "letterAt" "[I" ∈ BIG := T4 (List.mem_of_getElem? (i := 199) rfl) rfl
theorem W4_200 : Cond.fieldLink RX9 62 "ChairTooFewModel" "first" "[I" ∈ BIG := T4 (List.mem_of_getElem? (i := 200) rfl) rfl
theorem W4_201 : Cond.fieldLink RX9 65 "ChairTooFewModel" "second" "[I" ∈ BIG := T4 (List.mem_of_getElem? (i := 201) rfl) rfl
theorem W4_202 : Cond.fieldLink RX9 68 "ChairTooFewModel" "third" "[I" ∈ BIG := T4 (List.mem_of_getElem? (i := 202) rfl) rfl
theorem W4_203 : Cond.fieldLink RX9 139 "ChairTooFewModel" "taped" "I" ∈ BIG := T4 (List.mem_of_getElem? (i := 203) rfl) rfl
theorem W4_204 : Cond.fieldLink RX9 144 "ChairTooFewModel" "at" "I" ∈ BIG := T4 (List.mem_of_getElem? (i := 204) rfl) rfl
theorem W4_205 : Cond.fieldLink RX9 150 "ChairTooFewModel" "statements" "I" ∈ BIG := T4 (List.mem_of_getElem? (i := 205) rfl) rfl
theorem W4_206 : Cond.fieldLink RX9 71 "ChairTooFewModel" "kept" "[I" ∈ BIG := T4 (List.mem_of_getElem? (i := 206) rfl) rfl
theorem W4_207 : Cond.fieldLink RX9 281 "ChairTooFewModel" "hasImage" "Z" ∈ BIG := T4 (List.mem_of_getElem? (i := 207) rfl) rfl
theorem W4_208 : Cond.fieldLink RX9 170 "ChairTooFewModel" "isKeeping" "Z" ∈ BIG := T4 (List.mem_of_getElem? (i := 208) rfl) rfl
theorem W4_209 : Cond.fieldLink RX9 174 "ChairTooFewModel" "cursor" "I" ∈ BIG := T4 (List.mem_of_getElem? (i := 209) rfl) rfl
theorem W4_210 : Cond.fieldLink RX9 74 "ChairTooFewModel" "seat" "[I" ∈ BIG := T4 (List.mem_of_getElem? (i := 210) rfl) rfl
theorem W4_211 : Cond.fieldLink RX9 77 "ChairTooFewModel" "often" "[I" ∈ BIG := T4 (List.mem_of_getElem? (i := 211) rfl) rfl
theorem W4_212 : Cond.fieldLink RX9 242 "ChairTooFewModel" "together" "I" ∈ BIG := T4 (List.mem_of_getElem? (i := 212) rfl) rfl
theorem W4_213 : Cond.fieldLink RX9 245 "ChairTooFewModel" "held" "I" ∈ BIG := T4 (List.mem_of_getElem? (i := 213) rfl) rfl
theorem W4_214 : Cond.fieldLink RX9 260 "ChairTooFewModel" "partyTenths" "I" ∈ BIG := T4 (List.mem_of_getElem? (i := 214) rfl) rfl
theorem W4_215 : Cond.fieldLink RX9 263 "ChairTooFewModel" "partyRounds" "I" ∈ BIG := T4 (List.mem_of_getElem? (i := 215) rfl) rfl
theorem W4_216 : Cond.fieldLink RX9 266 "ChairTooFewModel" "winner" "I" ∈ BIG := T4 (List.mem_of_getElem? (i := 216) rfl) rfl
theorem W4_217 : Cond.fieldLink RX9 80 "ChairTooFewModel" "row" "[I" ∈ BIG := T4 (List.mem_of_getElem? (i := 217) rfl) rfl
theorem W4_218 : Cond.fieldLink RX9 83 "ChairTooFewModel" "film" "[I" ∈ BIG := T4 (List.mem_of_getElem? (i := 218) rfl) rfl
theorem W4_219 : Cond.fieldLink RX9 275 "ChairTooFewModel" "rowMany" "I" ∈ BIG := T4 (List.mem_of_getElem? (i := 219) rfl) rfl
theorem W4_220 : Cond.fieldLink RX9 278 "ChairTooFewModel" "filmMany" "I" ∈ BIG := T4 (List.mem_of_getElem? (i := 220) rfl) rfl
theorem W4_221 : Cond.laysFinal RX9 "ChairTooFewModel" "refused" "[I" ∈ BIG := T4 (List.mem_of_getElem? (i := 221) rfl) rfl
theorem W4_223 : Cond.laysFinal RX9 "ChairTooFewModel" "chair" "[I" ∈ BIG := T4 (List.mem_of_getElem? (i := 223) rfl) rfl
theorem W4_225 : Cond.laysFinal RX9 "ChairTooFewModel" "place" "[I" ∈ BIG := T4 (List.mem_of_getElem? (i := 225) rfl) rfl
theorem W4_227 : Cond.laysFinal RX9 "ChairTooFewModel" "parts" "[I" ∈ BIG := T4 (List.mem_of_getElem? (i := 227) rfl) rfl
theorem W4_229 : Cond.laysFinal RX9 "ChairTooFewModel" "in" "[I" ∈ BIG := T4 (List.mem_of_getElem? (i := 229) rfl) rfl
theorem W4_231 : Cond.laysFinal RX9 "ChairTooFewModel" "kind" "[I" ∈ BIG := T4 (List.mem_of_getElem? (i := 231) rfl) rfl
theorem W4_233 : Cond.laysFinal RX9 "ChairTooFewModel" "fast" "[I" ∈ BIG := T4 (List.mem_of_getElem? (i := 233) rfl) rfl
theorem W4_235 : Cond.laysFinal RX9 "ChairTooFewModel" "slow" "[I" ∈ BIG := T4 (List.mem_of_getElem? (i := 235) rfl) rfl
theorem W4_237 : Cond.laysFinal RX9 "ChairTooFewModel" "reach" "[I" ∈ BIG := T4 (List.mem_of_getElem? (i := 237) rfl) rfl
theorem W4_239 : Cond.laysFinal RX9 "ChairTooFewModel" "size" "[I" ∈ BIG := T4 (List.mem_of_getElem? (i := 239) rfl) rfl
theorem W5_1 : Cond.laysFinal RX9 "ChairTooFewModel" "manners" "[I" ∈ BIG := T5 (List.mem_of_getElem? (i := 1) rfl) rfl
theorem W5_3 : Cond.lays RX9 "ChairTooFewModel" "places" "I" ∈ BIG := T5 (List.mem_of_getElem? (i := 3) rfl) rfl
theorem W5_5 : Cond.lays RX9 "ChairTooFewModel" "walkers" "I" ∈ BIG := T5 (List.mem_of_getElem? (i := 5) rfl) rfl
theorem W5_7 : Cond.lays RX9 "ChairTooFewModel" "playerKind" "I" ∈ BIG := T5 (List.mem_of_getElem? (i := 7) rfl) rfl
theorem W5_9 : Cond.lays RX9 "ChairTooFewModel" "figure" "I" ∈ BIG := T5 (List.mem_of_getElem? (i := 9) rfl) rfl
theorem W5_11 : Cond.lays RX9 "ChairTooFewModel" "form" "I" ∈ BIG := T5 (List.mem_of_getElem? (i := 11) rfl) rfl
theorem W5_13 : Cond.lays RX9 "ChairTooFewModel" "lots" "I" ∈ BIG := T5 (List.mem_of_getElem? (i := 13) rfl) rfl
theorem W5_15 : Cond.lays RX9 "ChairTooFewModel" "tenths" "I" ∈ BIG := T5 (List.mem_of_getElem? (i := 15) rfl) rfl
theorem W5_17 : Cond.lays RX9 "ChairTooFewModel" "rounds" "I" ∈ BIG := T5 (List.mem_of_getElem? (i := 17) rfl) rfl
theorem W5_19 : Cond.lays RX9 "ChairTooFewModel" "hasEnded" "I" ∈ BIG := T5 (List.mem_of_getElem? (i := 19) rfl) rfl
theorem W5_21 : Cond.laysFinal RX9 "ChairTooFewModel" "tape" "[I" ∈ BIG := T5 (List.mem_of_getElem? (i := 21) rfl) rfl
theorem W5_23 : Cond.laysFinal RX9 "ChairTooFewModel" "letter" "[I" ∈ BIG := T5 (List.mem_of_getElem? (i := 23) rfl) rfl
theorem W5_25 : Cond.laysFinal RX9 "ChairTooFewModel" "letterAt" "[I" ∈ BIG := T5 (List.mem_of_getElem? (i := 25) rfl) rfl
theorem W5_27 : Cond.laysFinal RX9 "ChairTooFewModel" "first" "[I" ∈ BIG := T5 (List.mem_of_getElem? (i := 27) rfl) rfl
theorem W5_29 : Cond.laysFinal RX9 "ChairTooFewModel" "second" "[I" ∈ BIG := T5 (List.mem_of_getElem? (i := 29) rfl) rfl
theorem W5_31 : Cond.laysFinal RX9 "ChairTooFewModel" "third" "[I" ∈ BIG := T5 (List.mem_of_getElem? (i := 31) rfl) rfl
theorem W5_33 : Cond.lays RX9 "ChairTooFewModel" "taped" "I" ∈ BIG := T5 (List.mem_of_getElem? (i := 33) rfl) rfl
theorem W5_35 : Cond.lays RX9 "ChairTooFewModel" "at" "I" ∈ BIG := T5 (List.mem_of_getElem? (i := 35) rfl) rfl
theorem W5_37 : Cond.lays RX9 "ChairTooFewModel" "statements" "I" ∈ BIG := T5 (List.mem_of_getElem? (i := 37) rfl) rfl
theorem W5_39 : Cond.laysFinal RX9 "ChairTooFewModel" "kept" "[I" ∈ BIG := T5 (List.mem_of_getElem? (i := 39) rfl) rfl
theorem W5_41 : Cond.lays RX9 "ChairTooFewModel" "hasImage" "Z" ∈ BIG := T5 (List.mem_of_getElem? (i := 41) rfl) rfl
theorem W5_43 : Cond.lays RX9 "ChairTooFewModel" "isKeeping" "Z" ∈ BIG := T5 (List.mem_of_getElem? (i := 43) rfl) rfl
theorem W5_45 : Cond.lays RX9 "ChairTooFewModel" "cursor" "I" ∈ BIG := T5 (List.mem_of_getElem? (i := 45) rfl) rfl
theorem W5_47 : Cond.laysFinal RX9 "ChairTooFewModel" "seat" "[I" ∈ BIG := T5 (List.mem_of_getElem? (i := 47) rfl) rfl
theorem W5_49 : Cond.laysFinal RX9 "ChairTooFewModel" "often" "[I" ∈ BIG := T5 (List.mem_of_getElem? (i := 49) rfl) rfl
theorem W5_51 : Cond.lays RX9 "ChairTooFewModel" "together" "I" ∈ BIG := T5 (List.mem_of_getElem? (i := 51) rfl) rfl
theorem W5_53 : Cond.lays RX9 "ChairTooFewModel" "held" "I" ∈ BIG := T5 (List.mem_of_getElem? (i := 53) rfl) rfl
theorem W5_55 : Cond.lays RX9 "ChairTooFewModel" "partyTenths" "I" ∈ BIG := T5 (List.mem_of_getElem? (i := 55) rfl) rfl
theorem W5_57 : Cond.lays RX9 "ChairTooFewModel" "partyRounds" "I" ∈ BIG := T5 (List.mem_of_getElem? (i := 57) rfl) rfl
theorem W5_59 : Cond.lays RX9 "ChairTooFewModel" "winner" "I" ∈ BIG := T5 (List.mem_of_getElem? (i := 59) rfl) rfl
theorem W5_61 : Cond.laysFinal RX9 "ChairTooFewModel" "row" "[I" ∈ BIG := T5 (List.mem_of_getElem? (i := 61) rfl) rfl
theorem W5_63 : Cond.laysFinal RX9 "ChairTooFewModel" "film" "[I" ∈ BIG := T5 (List.mem_of_getElem? (i := 63) rfl) rfl
theorem W5_65 : Cond.lays RX9 "ChairTooFewModel" "rowMany" "I" ∈ BIG := T5 (List.mem_of_getElem? (i := 65) rfl) rfl
theorem W5_67 : Cond.lays RX9 "ChairTooFewModel" "filmMany" "I" ∈ BIG := T5 (List.mem_of_getElem? (i := 67) rfl) rfl
theorem W5_70 : Cond.methodLink RL 29 yX9_chair ∈ BIG := T5 (List.mem_of_getElem? (i := 70) rfl) rfl
theorem W5_71 : Cond.instanceMethod yX9_chair ∈ BIG := T5 (List.mem_of_getElem? (i := 71) rfl) rfl
theorem W5_72 : Cond.selects RX9 yX9_chair yX9_chair ∈ BIG := T5 (List.mem_of_getElem? (i := 72) rfl) rfl
theorem W5_73 : Cond.code yX9_chair cX9_chair 2 (Option.some Jvm.ClassFile.FieldType.int) ∈ BIG := T5 (List.mem_of_getElem? (i := 73) rfl) rfl
theorem W5_74 : Cond.methodLink RX9 92 yX9_isPlace ∈ BIG := T5 (List.mem_of_getElem? (i := 74) rfl) rfl
theorem W5_76 : Cond.instanceMethod yX9_isPlace ∈ BIG := T5 (List.mem_of_getElem? (i := 76) rfl) rfl
theorem W5_77 : Cond.code yX9_isPlace cX9_isPlace 2 (Option.some Jvm.ClassFile.FieldType.boolean) ∈ BIG := T5 (List.mem_of_getElem? (i := 77) rfl) rfl
theorem W5_78 : Cond.methodLink RX9 96 yX9_no ∈ BIG := T5 (List.mem_of_getElem? (i := 78) rfl) rfl
theorem W5_80 : Cond.instanceMethod yX9_no ∈ BIG := T5 (List.mem_of_getElem? (i := 80) rfl) rfl
theorem W5_81 : Cond.code yX9_no cX9_no 2 (Option.some Jvm.ClassFile.FieldType.int) ∈ BIG := T5 (List.mem_of_getElem? (i := 81) rfl) rfl
theorem W5_82 : Cond.methodLink RX9 100 yX9_chairs ∈ BIG := T5 (List.mem_of_getElem? (i := 82) rfl) rfl
theorem W5_84 : Cond.instanceMethod yX9_chairs ∈ BIG := T5 (List.mem_of_getElem? (i := 84) rfl) rfl
theorem W5_85 : Cond.code yX9_chairs cX9_chairs 3 (Option.some Jvm.ClassFile.FieldType.int) ∈ BIG := T5 (List.mem_of_getElem? (i := 85) rfl) rfl
theorem W5_86 : Cond.methodLink RX9 104 yX9_comesChair ∈ BIG := T5 (List.mem_of_getElem? (i := 86) rfl) rfl
theorem W5_88 : Cond.instanceMethod yX9_comesChair ∈ BIG := T5 (List.mem_of_getElem? (i := 88) rfl) rfl
theorem W5_89 : Cond.code yX9_comesChair cX9_comesChair 2 (Option.none : Option Jvm.ClassFile.FieldType) ∈ BIG := T5 (List.mem_of_getElem? (i := 89) rfl) rfl
theorem W5_90 : Cond.methodLink RL 34 yX9_walker ∈ BIG := T5 (List.mem_of_getElem? (i := 90) rfl) rfl
theorem W5_91 : Cond.instanceMethod yX9_walker ∈ BIG := T5 (List.mem_of_getElem? (i := 91) rfl) rfl
theorem W5_92 : Cond.selects RX9 yX9_walker yX9_walker ∈ BIG := T5 (List.mem_of_getElem? (i := 92) rfl) rfl
theorem W5_93 : Cond.code yX9_walker cX9_walker 5 (Option.some Jvm.ClassFile.FieldType.int) ∈ BIG := T5 (List.mem_of_getElem? (i := 93) rfl) rfl
theorem W5_94 : Cond.methodLink RX9 108 yX9_isIn ∈ BIG := T5 (List.mem_of_getElem? (i := 94) rfl) rfl
theorem W5_95 : Cond.static yX9_isIn ∈ BIG := T5 (List.mem_of_getElem? (i := 95) rfl) rfl
theorem W5_96 : Cond.code yX9_isIn cX9_isIn 3 (Option.some Jvm.ClassFile.FieldType.boolean) ∈ BIG := T5 (List.mem_of_getElem? (i := 96) rfl) rfl
theorem W5_97 : Cond.methodLink RX9 112 yX9_bound ∈ BIG := T5 (List.mem_of_getElem? (i := 97) rfl) rfl
theorem W5_98 : Cond.static yX9_bound ∈ BIG := T5 (List.mem_of_getElem? (i := 98) rfl) rfl
theorem W5_99 : Cond.code yX9_bound cX9_bound 3 (Option.some Jvm.ClassFile.FieldType.int) ∈ BIG := T5 (List.mem_of_getElem? (i := 99) rfl) rfl
theorem W5_100 : Cond.methodLink RX9 116 yX9_isTaken ∈ BIG := T5 (List.mem_of_getElem? (i := 100) rfl) rfl
theorem W5_102 : Cond.instanceMethod yX9_isTaken ∈ BIG := T5 (List.mem_of_getElem? (i := 102) rfl) rfl
theorem W5_103 : Cond.code yX9_isTaken cX9_isTaken 3 (Option.some Jvm.ClassFile.FieldType.boolean) ∈ BIG := T5 (List.mem_of_getElem? (i := 103) rfl) rfl
theorem W5_104 : Cond.methodLink RX9 119 yX9_comesWalker ∈ BIG := T5 (List.mem_of_getElem? (i := 104) rfl) rfl
theorem W5_106 : Cond.instanceMethod yX9_comesWalker ∈ BIG := T5 (List.mem_of_getElem? (i := 106) rfl) rfl
theorem W5_107 : Cond.code yX9_comesWalker cX9_comesWalker 4 (Option.none : Option Jvm.ClassFile.FieldType) ∈ BIG := T5 (List.mem_of_getElem? (i := 107) rfl) rfl
theorem W5_108 : Cond.methodLink RL 38 yX9_set ∈ BIG := T5 (List.mem_of_getElem? (i := 108) rfl) rfl
theorem W5_109 : Cond.instanceMethod yX9_set ∈ BIG := T5 (List.mem_of_getElem? (i := 109) rfl) rfl
theorem W5_110 : Cond.selects RX9 yX9_set yX9_set ∈ BIG := T5 (List.mem_of_getElem? (i := 110) rfl) rfl
theorem W5_111 : Cond.code yX9_set cX9_set 7 (Option.some Jvm.ClassFile.FieldType.int) ∈ BIG := T5 (List.mem_of_getElem? (i := 111) rfl) rfl
theorem W5_112 : Cond.methodLink RX9 123 yX9_isWalker ∈ BIG := T5 (List.mem_of_getElem? (i := 112) rfl) rfl
theorem W5_114 : Cond.instanceMethod yX9_isWalker ∈ BIG := T5 (List.mem_of_getElem? (i := 114) rfl) rfl
theorem W5_115 : Cond.code yX9_isWalker cX9_isWalker 2 (Option.some Jvm.ClassFile.FieldType.boolean) ∈ BIG := T5 (List.mem_of_getElem? (i := 115) rfl) rfl
theorem W5_116 : Cond.methodLink RL 43 yX9_player ∈ BIG := T5 (List.mem_of_getElem? (i := 116) rfl) rfl
theorem W5_117 : Cond.instanceMethod yX9_player ∈ BIG := T5 (List.mem_of_getElem? (i := 117) rfl) rfl
theorem W5_118 : Cond.selects RX9 yX9_player yX9_player ∈ BIG := T5 (List.mem_of_getElem? (i := 118) rfl) rfl
theorem W5_119 : Cond.code yX9_player cX9_player 5 (Option.some Jvm.ClassFile.FieldType.int) ∈ BIG := T5 (List.mem_of_getElem? (i := 119) rfl) rfl
theorem W5_120 : Cond.methodLink RL 47 yX9_form ∈ BIG := T5 (List.mem_of_getElem? (i := 120) rfl) rfl
theorem W5_121 : Cond.instanceMethod yX9_form ∈ BIG := T5 (List.mem_of_getElem? (i := 121) rfl) rfl
theorem W5_122 : Cond.selects RX9 yX9_form yX9_form ∈ BIG := T5 (List.mem_of_getElem? (i := 122) rfl) rfl
theorem W5_123 : Cond.code yX9_form cX9_form 4 (Option.some Jvm.ClassFile.FieldType.int) ∈ BIG := T5 (List.mem_of_getElem? (i := 123) rfl) rfl
theorem W5_124 : Cond.methodLink RL 51 yX9_seed ∈ BIG := T5 (List.mem_of_getElem? (i := 124) rfl) rfl
theorem W5_125 : Cond.instanceMethod yX9_seed ∈ BIG := T5 (List.mem_of_getElem? (i := 125) rfl) rfl
theorem W5_126 : Cond.selects RX9 yX9_seed yX9_seed ∈ BIG := T5 (List.mem_of_getElem? (i := 126) rfl) rfl
theorem W5_127 : Cond.code yX9_seed cX9_seed 3 (Option.some Jvm.ClassFile.FieldType.int) ∈ BIG := T5 (List.mem_of_getElem? (i := 127) rfl) rfl
theorem W5_128 : Cond.methodLink RL 55 yX9_of ∈ BIG := T5 (List.mem_of_getElem? (i := 128) rfl) rfl
theorem W5_129 : Cond.instanceMethod yX9_of ∈ BIG := T5 (List.mem_of_getElem? (i := 129) rfl) rfl
theorem W5_130 : Cond.selects RX9 yX9_of yX9_of ∈ BIG := T5 (List.mem_of_getElem? (i := 130) rfl) rfl
theorem W5_131 : Cond.code yX9_of cX9_of 3 (Option.some Jvm.ClassFile.FieldType.int) ∈ BIG := T5 (List.mem_of_getElem? (i := 131) rfl) rfl
theorem W5_132 : Cond.methodLink RL 59 yX9_has ∈ BIG := T5 (List.mem_of_getElem? (i := 132) rfl) rfl
theorem W5_133 : Cond.instanceMethod yX9_has ∈ BIG := T5 (List.mem_of_getElem? (i := 133) rfl) rfl
theorem W5_134 : Cond.selects RX9 yX9_has yX9_has ∈ BIG := T5 (List.mem_of_getElem? (i := 134) rfl) rfl
theorem W5_135 : Cond.code yX9_has cX9_has 2 (Option.some Jvm.ClassFile.FieldType.int) ∈ BIG := T5 (List.mem_of_getElem? (i := 135) rfl) rfl
theorem W5_136 : Cond.methodLink RL 63 yX9_haste ∈ BIG := T5 (List.mem_of_getElem? (i := 136) rfl) rfl
theorem W5_137 : Cond.instanceMethod yX9_haste ∈ BIG := T5 (List.mem_of_getElem? (i := 137) rfl) rfl
theorem W5_138 : Cond.selects RX9 yX9_haste yX9_haste ∈ BIG := T5 (List.mem_of_getElem? (i := 138) rfl) rfl
theorem W5_139 : Cond.code yX9_haste cX9_haste 3 (Option.some Jvm.ClassFile.FieldType.int) ∈ BIG := T5 (List.mem_of_getElem? (i := 139) rfl) rfl
theorem W5_140 : Cond.methodLink RX9 136 yX9_hasteOf ∈ BIG := T5 (List.mem_of_getElem? (i := 140) rfl) rfl
theorem W5_142 : Cond.instanceMethod yX9_hasteOf ∈ BIG := T5 (List.mem_of_getElem? (i := 142) rfl) rfl
theorem W5_143 : Cond.code yX9_hasteOf cX9_hasteOf 5 (Option.some Jvm.ClassFile.FieldType.int) ∈ BIG := T5 (List.mem_of_getElem? (i := 143) rfl) rfl
theorem W5_144 : Cond.methodLink RX9 132 yX9_far ∈ BIG := T5 (List.mem_of_getElem? (i := 144) rfl) rfl
theorem W5_146 : Cond.instanceMethod yX9_far ∈ BIG := T5 (List.mem_of_getElem? (i := 146) rfl) rfl
theorem W5_147 : Cond.code yX9_far cX9_far 4 (Option.some Jvm.ClassFile.FieldType.int) ∈ BIG := T5 (List.mem_of_getElem? (i := 147) rfl) rfl
theorem W5_148 : Cond.methodLink RL 19 yX9_feed ∈ BIG := T5 (List.mem_of_getElem? (i := 148) rfl) rfl
theorem W5_149 : Cond.instanceMethod yX9_feed ∈ BIG := T5 (List.mem_of_getElem? (i := 149) rfl) rfl
theorem W5_150 : Cond.selects RX9 yX9_feed yX9_feed ∈ BIG := T5 (List.mem_of_getElem? (i := 150) rfl) rfl
theorem W5_151 : Cond.code yX9_feed cX9_feed 6 (Option.some Jvm.ClassFile.FieldType.int) ∈ BIG := T5 (List.mem_of_getElem? (i := 151) rfl) rfl
theorem W5_152 : Cond.constantLong RX9 142 (255) ∈ BIG := T5 (List.mem_of_getElem? (i := 152) rfl) rfl
theorem W5_153 : Cond.methodLink RL 24 yX9_party ∈ BIG := T5 (List.mem_of_getElem? (i := 153) rfl) rfl
theorem W5_154 : Cond.instanceMethod yX9_party ∈ BIG := T5 (List.mem_of_getElem? (i := 154) rfl) rfl
theorem W5_155 : Cond.selects RX9 yX9_party yX9_party ∈ BIG := T5 (List.mem_of_getElem? (i := 155) rfl) rfl
theorem W5_156 : Cond.code yX9_party cX9_party 3 (Option.some Jvm.ClassFile.FieldType.int) ∈ BIG := T5 (List.mem_of_getElem? (i := 156) rfl) rfl
theorem W5_157 : Cond.methodLink RX9 159 yX9_statement ∈ BIG := T5 (List.mem_of_getElem? (i := 157) rfl) rfl
theorem W5_159 : Cond.instanceMethod yX9_statement ∈ BIG := T5 (List.mem_of_getElem? (i := 159) rfl) rfl
theorem W5_160 : Cond.code yX9_statement cX9_statement 3 (Option.some Jvm.ClassFile.FieldType.boolean) ∈ BIG := T5 (List.mem_of_getElem? (i := 160) rfl) rfl
theorem W5_161 : Cond.methodLink RX9 147 yX9_sign ∈ BIG := T5 (List.mem_of_getElem? (i := 161) rfl) rfl
theorem W5_163 : Cond.instanceMethod yX9_sign ∈ BIG := T5 (List.mem_of_getElem? (i := 163) rfl) rfl
theorem W5_164 : Cond.code yX9_sign cX9_sign 1 (Option.some Jvm.ClassFile.FieldType.int) ∈ BIG := T5 (List.mem_of_getElem? (i := 164) rfl) rfl
theorem W5_165 : Cond.methodLink RX9 153 yX9_number ∈ BIG := T5 (List.mem_of_getElem? (i := 165) rfl) rfl
theorem W5_167 : Cond.instanceMethod yX9_number ∈ BIG := T5 (List.mem_of_getElem? (i := 167) rfl) rfl
theorem W5_168 : Cond.code yX9_number cX9_number 4 (Option.some Jvm.ClassFile.FieldType.int) ∈ BIG := T5 (List.mem_of_getElem? (i := 168) rfl) rfl
theorem W5_169 : Cond.methodLink RX9 156 yX9_takes ∈ BIG := T5 (List.mem_of_getElem? (i := 169) rfl) rfl
theorem W5_171 : Cond.instanceMethod yX9_takes ∈ BIG := T5 (List.mem_of_getElem? (i := 171) rfl) rfl
theorem W5_172 : Cond.code yX9_takes cX9_takes 2 (Option.some Jvm.ClassFile.FieldType.boolean) ∈ BIG := T5 (List.mem_of_getElem? (i := 172) rfl) rfl
theorem W5_173 : Cond.methodLink RX9 163 yX9_passesAll ∈ BIG := T5 (List.mem_of_getElem? (i := 173) rfl) rfl
theorem W5_175 : Cond.instanceMethod yX9_passesAll ∈ BIG := T5 (List.mem_of_getElem? (i := 175) rfl) rfl
theorem W5_176 : Cond.code yX9_passesAll cX9_passesAll 3 (Option.none : Option Jvm.ClassFile.FieldType) ∈ BIG := T5 (List.mem_of_getElem? (i := 176) rfl) rfl
theorem W5_177 : Cond.methodLink RX9 177 yX9_passes ∈ BIG := T5 (List.mem_of_getElem? (i := 177) rfl) rfl
theorem W5_179 : Cond.instanceMethod yX9_passes ∈ BIG := T5 (List.mem_of_getElem? (i := 179) rfl) rfl
theorem W5_180 : Cond.code yX9_passes cX9_passes 3 (Option.none : Option Jvm.ClassFile.FieldType) ∈ BIG := T5 (List.mem_of_getElem? (i := 180) rfl) rfl
theorem W5_181 : Cond.methodLink RX9 181 yX9_passOne ∈ BIG := T5 (List.mem_of_getElem? (i := 181) rfl) rfl
theorem W5_183 : Cond.instanceMethod yX9_passOne ∈ BIG := T5 (List.mem_of_getElem? (i := 183) rfl) rfl
theorem W5_184 : Cond.code yX9_passOne cX9_passOne 3 (Option.some Jvm.ClassFile.FieldType.int) ∈ BIG := T5 (List.mem_of_getElem? (i := 184) rfl) rfl
theorem W5_185 : Cond.methodLink RX9 167 yX9_comes ∈ BIG := T5 (List.mem_of_getElem? (i := 185) rfl) rfl
theorem W5_187 : Cond.instanceMethod yX9_comes ∈ BIG := T5 (List.mem_of_getElem? (i := 187) rfl) rfl
theorem W5_188 : Cond.code yX9_comes cX9_comes 3 (Option.some Jvm.ClassFile.FieldType.boolean) ∈ BIG := T5 (List.mem_of_getElem? (i := 188) rfl) rfl
theorem W5_189 : Cond.methodLink RL 67 yX9_go ∈ BIG := T5 (List.mem_of_getElem? (i := 189) rfl) rfl
theorem W5_190 : Cond.instanceMethod yX9_go ∈ BIG := T5 (List.mem_of_getElem? (i := 190) rfl) rfl
theorem W5_191 : Cond.selects RX9 yX9_go yX9_go ∈ BIG := T5 (List.mem_of_getElem? (i := 191) rfl) rfl
theorem W5_192 : Cond.code yX9_go cX9_go 4 (Option.some Jvm.ClassFile.FieldType.int) ∈ BIG := T5 (List.mem_of_getElem? (i := 192) rfl) rfl
theorem W5_193 : Cond.methodLink RX9 233 yX9_isOver ∈ BIG := T5 (List.mem_of_getElem? (i := 193) rfl) rfl
theorem W5_195 : Cond.instanceMethod yX9_isOver ∈ BIG := T5 (List.mem_of_getElem? (i := 195) rfl) rfl
theorem W5_196 : Cond.code yX9_isOver cX9_isOver 1 (Option.some Jvm.ClassFile.FieldType.boolean) ∈ BIG := T5 (List.mem_of_getElem? (i := 196) rfl) rfl
theorem W5_197 : Cond.methodLink RX9 218 yX9_ins ∈ BIG := T5 (List.mem_of_getElem? (i := 197) rfl) rfl
theorem W5_199 : Cond.instanceMethod yX9_ins ∈ BIG := T5 (List.mem_of_getElem? (i := 199) rfl) rfl
theorem W5_200 : Cond.code yX9_ins cX9_ins 3 (Option.some Jvm.ClassFile.FieldType.int) ∈ BIG := T5 (List.mem_of_getElem? (i := 200) rfl) rfl
theorem W5_201 : Cond.methodLink RX9 236 yX9_goesOn ∈ BIG := T5 (List.mem_of_getElem? (i := 201) rfl) rfl
theorem W5_203 : Cond.instanceMethod yX9_goesOn ∈ BIG := T5 (List.mem_of_getElem? (i := 203) rfl) rfl
theorem W5_204 : Cond.code yX9_goesOn cX9_goesOn 1 (Option.some Jvm.ClassFile.FieldType.boolean) ∈ BIG := T5 (List.mem_of_getElem? (i := 204) rfl) rfl
theorem W5_205 : Cond.methodLink RX9 224 yX9_walks ∈ BIG := T5 (List.mem_of_getElem? (i := 205) rfl) rfl
theorem W5_207 : Cond.instanceMethod yX9_walks ∈ BIG := T5 (List.mem_of_getElem? (i := 207) rfl) rfl
theorem W5_208 : Cond.code yX9_walks cX9_walks 3 (Option.none : Option Jvm.ClassFile.FieldType) ∈ BIG := T5 (List.mem_of_getElem? (i := 208) rfl) rfl
theorem W5_209 : Cond.methodLink RX9 227 yX9_doesStop ∈ BIG := T5 (List.mem_of_getElem? (i := 209) rfl) rfl
theorem W5_211 : Cond.instanceMethod yX9_doesStop ∈ BIG := T5 (List.mem_of_getElem? (i := 211) rfl) rfl
theorem W5_212 : Cond.code yX9_doesStop cX9_doesStop 3 (Option.some Jvm.ClassFile.FieldType.boolean) ∈ BIG := T5 (List.mem_of_getElem? (i := 212) rfl) rfl
theorem W5_213 : Cond.constant RX9 221 (1103515245) ∈ BIG := T5 (List.mem_of_getElem? (i := 213) rfl) rfl
theorem W5_214 : Cond.constant RX9 222 (2147483647) ∈ BIG := T5 (List.mem_of_getElem? (i := 214) rfl) rfl
theorem W5_215 : Cond.constant RX9 223 (65536) ∈ BIG := T5 (List.mem_of_getElem? (i := 215) rfl) rfl
theorem W5_216 : Cond.methodLink RX9 230 yX9_stops ∈ BIG := T5 (List.mem_of_getElem? (i := 216) rfl) rfl
theorem W5_218 : Cond.instanceMethod yX9_stops ∈ BIG := T5 (List.mem_of_getElem? (i := 218) rfl) rfl
theorem W5_219 : Cond.code yX9_stops cX9_stops 2 (Option.some Jvm.ClassFile.FieldType.int) ∈ BIG := T5 (List.mem_of_getElem? (i := 219) rfl) rfl
theorem W5_220 : Cond.methodLink RX9 209 yX9_sit ∈ BIG := T5 (List.mem_of_getElem? (i := 220) rfl) rfl
theorem W5_222 : Cond.instanceMethod yX9_sit ∈ BIG := T5 (List.mem_of_getElem? (i := 222) rfl) rfl
theorem W5_223 : Cond.code yX9_sit cX9_sit 3 (Option.none : Option Jvm.ClassFile.FieldType) ∈ BIG := T5 (List.mem_of_getElem? (i := 223) rfl) rfl
theorem W5_224 : Cond.methodLink RX9 197 yX9_seatsOne ∈ BIG := T5 (List.mem_of_getElem? (i := 224) rfl) rfl
theorem W5_226 : Cond.instanceMethod yX9_seatsOne ∈ BIG := T5 (List.mem_of_getElem? (i := 226) rfl) rfl
theorem W5_227 : Cond.code yX9_seatsOne cX9_seatsOne 5 (Option.some Jvm.ClassFile.FieldType.boolean) ∈ BIG := T5 (List.mem_of_getElem? (i := 227) rfl) rfl
theorem W5_228 : Cond.methodLink RX9 190 yX9_isSeat ∈ BIG := T5 (List.mem_of_getElem? (i := 228) rfl) rfl
theorem W5_230 : Cond.instanceMethod yX9_isSeat ∈ BIG := T5 (List.mem_of_getElem? (i := 230) rfl) rfl
theorem W5_231 : Cond.code yX9_isSeat cX9_isSeat 3 (Option.some Jvm.ClassFile.FieldType.boolean) ∈ BIG := T5 (List.mem_of_getElem? (i := 231) rfl) rfl
theorem W5_232 : Cond.methodLink RX9 193 yX9_mayReach ∈ BIG := T5 (List.mem_of_getElem? (i := 232) rfl) rfl
theorem W5_234 : Cond.instanceMethod yX9_mayReach ∈ BIG := T5 (List.mem_of_getElem? (i := 234) rfl) rfl
theorem W5_235 : Cond.code yX9_mayReach cX9_mayReach 3 (Option.some Jvm.ClassFile.FieldType.boolean) ∈ BIG := T5 (List.mem_of_getElem? (i := 235) rfl) rfl
theorem W5_236 : Cond.methodLink RX9 200 yX9_judges ∈ BIG := T5 (List.mem_of_getElem? (i := 236) rfl) rfl
theorem W5_238 : Cond.instanceMethod yX9_judges ∈ BIG := T5 (List.mem_of_getElem? (i := 238) rfl) rfl
theorem W5_239 : Cond.code yX9_judges cX9_judges 3 (Option.none : Option Jvm.ClassFile.FieldType) ∈ BIG := T5 (List.mem_of_getElem? (i := 239) rfl) rfl
theorem W6_0 : Cond.methodLink RX9 212 yX9_goer ∈ BIG := T6 (List.mem_of_getElem? (i := 0) rfl) rfl
theorem W6_2 : Cond.instanceMethod yX9_goer ∈ BIG := T6 (List.mem_of_getElem? (i := 2) rfl) rfl
theorem W6_3 : Cond.code yX9_goer cX9_goer 3 (Option.some Jvm.ClassFile.FieldType.int) ∈ BIG := T6 (List.mem_of_getElem? (i := 3) rfl) rfl
theorem W6_4 : Cond.methodLink RX9 203 yX9_nearest ∈ BIG := T6 (List.mem_of_getElem? (i := 4) rfl) rfl
theorem W6_6 : Cond.instanceMethod yX9_nearest ∈ BIG := T6 (List.mem_of_getElem? (i := 6) rfl) rfl
theorem W6_7 : Cond.code yX9_nearest cX9_nearest 4 (Option.some Jvm.ClassFile.FieldType.int) ∈ BIG := T6 (List.mem_of_getElem? (i := 7) rfl) rfl
theorem W6_8 : Cond.methodLink RX9 215 yX9_leaver ∈ BIG := T6 (List.mem_of_getElem? (i := 8) rfl) rfl
theorem W6_10 : Cond.instanceMethod yX9_leaver ∈ BIG := T6 (List.mem_of_getElem? (i := 10) rfl) rfl
theorem W6_11 : Cond.code yX9_leaver cX9_leaver 3 (Option.some Jvm.ClassFile.FieldType.int) ∈ BIG := T6 (List.mem_of_getElem? (i := 11) rfl) rfl
theorem W6_12 : Cond.methodLink RX9 206 yX9_ways ∈ BIG := T6 (List.mem_of_getElem? (i := 12) rfl) rfl
theorem W6_14 : Cond.instanceMethod yX9_ways ∈ BIG := T6 (List.mem_of_getElem? (i := 14) rfl) rfl
theorem W6_15 : Cond.code yX9_ways cX9_ways 4 (Option.some Jvm.ClassFile.FieldType.int) ∈ BIG := T6 (List.mem_of_getElem? (i := 15) rfl) rfl
theorem W6_16 : Cond.methodLink RL 71 yX9_stop ∈ BIG := T6 (List.mem_of_getElem? (i := 16) rfl) rfl
theorem W6_17 : Cond.instanceMethod yX9_stop ∈ BIG := T6 (List.mem_of_getElem? (i := 17) rfl) rfl
theorem W6_18 : Cond.selects RX9 yX9_stop yX9_stop ∈ BIG := T6 (List.mem_of_getElem? (i := 18) rfl) rfl
theorem W6_19 : Cond.code yX9_stop cX9_stop 1 (Option.some Jvm.ClassFile.FieldType.int) ∈ BIG := T6 (List.mem_of_getElem? (i := 19) rfl) rfl
theorem W6_20 : Cond.methodLink RL 75 yX9_sits ∈ BIG := T6 (List.mem_of_getElem? (i := 20) rfl) rfl
theorem W6_21 : Cond.instanceMethod yX9_sits ∈ BIG := T6 (List.mem_of_getElem? (i := 21) rfl) rfl
theorem W6_22 : Cond.selects RX9 yX9_sits yX9_sits ∈ BIG := T6 (List.mem_of_getElem? (i := 22) rfl) rfl
theorem W6_23 : Cond.code yX9_sits cX9_sits 2 (Option.some Jvm.ClassFile.FieldType.int) ∈ BIG := T6 (List.mem_of_getElem? (i := 23) rfl) rfl
theorem W6_24 : Cond.methodLink RX9 239 yX9_isThere ∈ BIG := T6 (List.mem_of_getElem? (i := 24) rfl) rfl
theorem W6_26 : Cond.instanceMethod yX9_isThere ∈ BIG := T6 (List.mem_of_getElem? (i := 26) rfl) rfl
theorem W6_27 : Cond.code yX9_isThere cX9_isThere 2 (Option.some Jvm.ClassFile.FieldType.boolean) ∈ BIG := T6 (List.mem_of_getElem? (i := 27) rfl) rfl
theorem W6_28 : Cond.methodLink RL 79 yX9_would ∈ BIG := T6 (List.mem_of_getElem? (i := 28) rfl) rfl
theorem W6_29 : Cond.instanceMethod yX9_would ∈ BIG := T6 (List.mem_of_getElem? (i := 29) rfl) rfl
theorem W6_30 : Cond.selects RX9 yX9_would yX9_would ∈ BIG := T6 (List.mem_of_getElem? (i := 30) rfl) rfl
theorem W6_31 : Cond.code yX9_would cX9_would 2 (Option.some Jvm.ClassFile.FieldType.int) ∈ BIG := T6 (List.mem_of_getElem? (i := 31) rfl) rfl
theorem W6_32 : Cond.methodLink RL 83 yX9_odds ∈ BIG := T6 (List.mem_of_getElem? (i := 32) rfl) rfl
theorem W6_33 : Cond.instanceMethod yX9_odds ∈ BIG := T6 (List.mem_of_getElem? (i := 33) rfl) rfl
theorem W6_34 : Cond.selects RX9 yX9_odds yX9_odds ∈ BIG := T6 (List.mem_of_getElem? (i := 34) rfl) rfl
theorem W6_35 : Cond.code yX9_odds cX9_odds 4 (Option.some Jvm.ClassFile.FieldType.int) ∈ BIG := T6 (List.mem_of_getElem? (i := 35) rfl) rfl
theorem W6_36 : Cond.methodLink RX9 251 yX9_notOdds ∈ BIG := T6 (List.mem_of_getElem? (i := 36) rfl) rfl
theorem W6_38 : Cond.instanceMethod yX9_notOdds ∈ BIG := T6 (List.mem_of_getElem? (i := 38) rfl) rfl
theorem W6_39 : Cond.code yX9_notOdds cX9_notOdds 3 (Option.some Jvm.ClassFile.FieldType.int) ∈ BIG := T6 (List.mem_of_getElem? (i := 39) rfl) rfl
theorem W6_40 : Cond.methodLink RX9 254 yX9_oddsOf ∈ BIG := T6 (List.mem_of_getElem? (i := 40) rfl) rfl
theorem W6_42 : Cond.instanceMethod yX9_oddsOf ∈ BIG := T6 (List.mem_of_getElem? (i := 42) rfl) rfl
theorem W6_43 : Cond.code yX9_oddsOf cX9_oddsOf 3 (Option.some Jvm.ClassFile.FieldType.int) ∈ BIG := T6 (List.mem_of_getElem? (i := 43) rfl) rfl
theorem W6_44 : Cond.methodLink RX9 248 yX9_findOdds ∈ BIG := T6 (List.mem_of_getElem? (i := 44) rfl) rfl
theorem W6_46 : Cond.instanceMethod yX9_findOdds ∈ BIG := T6 (List.mem_of_getElem? (i := 46) rfl) rfl
theorem W6_47 : Cond.code yX9_findOdds cX9_findOdds 6 (Option.none : Option Jvm.ClassFile.FieldType) ∈ BIG := T6 (List.mem_of_getElem? (i := 47) rfl) rfl
theorem W6_48 : Cond.methodLink RL 87 yX9_fair ∈ BIG := T6 (List.mem_of_getElem? (i := 48) rfl) rfl
theorem W6_49 : Cond.instanceMethod yX9_fair ∈ BIG := T6 (List.mem_of_getElem? (i := 49) rfl) rfl
theorem W6_50 : Cond.selects RX9 yX9_fair yX9_fair ∈ BIG := T6 (List.mem_of_getElem? (i := 50) rfl) rfl
theorem W6_51 : Cond.code yX9_fair cX9_fair 6 (Option.some Jvm.ClassFile.FieldType.int) ∈ BIG := T6 (List.mem_of_getElem? (i := 51) rfl) rfl
theorem W6_52 : Cond.methodLink RL 91 yX9_bestSlow ∈ BIG := T6 (List.mem_of_getElem? (i := 52) rfl) rfl
theorem W6_53 : Cond.instanceMethod yX9_bestSlow ∈ BIG := T6 (List.mem_of_getElem? (i := 53) rfl) rfl
theorem W6_54 : Cond.selects RX9 yX9_bestSlow yX9_bestSlow ∈ BIG := T6 (List.mem_of_getElem? (i := 54) rfl) rfl
theorem W6_55 : Cond.code yX9_bestSlow cX9_bestSlow 8 (Option.some Jvm.ClassFile.FieldType.int) ∈ BIG := T6 (List.mem_of_getElem? (i := 55) rfl) rfl
theorem W6_56 : Cond.methodLink RX9 257 yX9_oddsBy ∈ BIG := T6 (List.mem_of_getElem? (i := 56) rfl) rfl
theorem W6_58 : Cond.instanceMethod yX9_oddsBy ∈ BIG := T6 (List.mem_of_getElem? (i := 58) rfl) rfl
theorem W6_59 : Cond.code yX9_oddsBy cX9_oddsBy 6 (Option.some Jvm.ClassFile.FieldType.int) ∈ BIG := T6 (List.mem_of_getElem? (i := 59) rfl) rfl
theorem W6_60 : Cond.methodLink RL 95 yX9_cheat ∈ BIG := T6 (List.mem_of_getElem? (i := 60) rfl) rfl
theorem W6_61 : Cond.instanceMethod yX9_cheat ∈ BIG := T6 (List.mem_of_getElem? (i := 61) rfl) rfl
theorem W6_62 : Cond.selects RX9 yX9_cheat yX9_cheat ∈ BIG := T6 (List.mem_of_getElem? (i := 62) rfl) rfl
theorem W6_63 : Cond.code yX9_cheat cX9_cheat 7 (Option.some Jvm.ClassFile.FieldType.int) ∈ BIG := T6 (List.mem_of_getElem? (i := 63) rfl) rfl
theorem W6_64 : Cond.methodLink RL 99 yX9_lasts ∈ BIG := T6 (List.mem_of_getElem? (i := 64) rfl) rfl
theorem W6_65 : Cond.instanceMethod yX9_lasts ∈ BIG := T6 (List.mem_of_getElem? (i := 65) rfl) rfl
theorem W6_66 : Cond.selects RX9 yX9_lasts yX9_lasts ∈ BIG := T6 (List.mem_of_getElem? (i := 66) rfl) rfl
theorem W6_67 : Cond.code yX9_lasts cX9_lasts 2 (Option.some Jvm.ClassFile.FieldType.int) ∈ BIG := T6 (List.mem_of_getElem? (i := 67) rfl) rfl
theorem W6_68 : Cond.methodLink RX9 272 yX9_partyBy ∈ BIG := T6 (List.mem_of_getElem? (i := 68) rfl) rfl
theorem W6_70 : Cond.instanceMethod yX9_partyBy ∈ BIG := T6 (List.mem_of_getElem? (i := 70) rfl) rfl
theorem W6_71 : Cond.code yX9_partyBy cX9_partyBy 4 (Option.none : Option Jvm.ClassFile.FieldType) ∈ BIG := T6 (List.mem_of_getElem? (i := 71) rfl) rfl
theorem W6_72 : Cond.methodLink RX9 269 yX9_plays ∈ BIG := T6 (List.mem_of_getElem? (i := 72) rfl) rfl
theorem W6_74 : Cond.instanceMethod yX9_plays ∈ BIG := T6 (List.mem_of_getElem? (i := 74) rfl) rfl
theorem W6_75 : Cond.code yX9_plays cX9_plays 2 (Option.none : Option Jvm.ClassFile.FieldType) ∈ BIG := T6 (List.mem_of_getElem? (i := 75) rfl) rfl
theorem W6_76 : Cond.methodLink RL 103 yX9_wins ∈ BIG := T6 (List.mem_of_getElem? (i := 76) rfl) rfl
theorem W6_77 : Cond.instanceMethod yX9_wins ∈ BIG := T6 (List.mem_of_getElem? (i := 77) rfl) rfl
theorem W6_78 : Cond.selects RX9 yX9_wins yX9_wins ∈ BIG := T6 (List.mem_of_getElem? (i := 78) rfl) rfl
theorem W6_79 : Cond.code yX9_wins cX9_wins 7 (Option.some Jvm.ClassFile.FieldType.int) ∈ BIG := T6 (List.mem_of_getElem? (i := 79) rfl) rfl
theorem W6_80 : Cond.methodLink RL 107 yX9_fairest ∈ BIG := T6 (List.mem_of_getElem? (i := 80) rfl) rfl
theorem W6_81 : Cond.instanceMethod yX9_fairest ∈ BIG := T6 (List.mem_of_getElem? (i := 81) rfl) rfl
theorem W6_82 : Cond.selects RX9 yX9_fairest yX9_fairest ∈ BIG := T6 (List.mem_of_getElem? (i := 82) rfl) rfl
theorem W6_83 : Cond.code yX9_fairest cX9_fairest 12 (Option.some Jvm.ClassFile.FieldType.int) ∈ BIG := T6 (List.mem_of_getElem? (i := 83) rfl) rfl
theorem W6_84 : Cond.methodLink RL 111 yX9_shortest ∈ BIG := T6 (List.mem_of_getElem? (i := 84) rfl) rfl
theorem W6_85 : Cond.instanceMethod yX9_shortest ∈ BIG := T6 (List.mem_of_getElem? (i := 85) rfl) rfl
theorem W6_86 : Cond.selects RX9 yX9_shortest yX9_shortest ∈ BIG := T6 (List.mem_of_getElem? (i := 86) rfl) rfl
theorem W6_87 : Cond.code yX9_shortest cX9_shortest 4 (Option.some Jvm.ClassFile.FieldType.int) ∈ BIG := T6 (List.mem_of_getElem? (i := 87) rfl) rfl
theorem W6_88 : Cond.methodLink RL 115 yX9_row ∈ BIG := T6 (List.mem_of_getElem? (i := 88) rfl) rfl
theorem W6_89 : Cond.instanceMethod yX9_row ∈ BIG := T6 (List.mem_of_getElem? (i := 89) rfl) rfl
theorem W6_90 : Cond.selects RX9 yX9_row yX9_row ∈ BIG := T6 (List.mem_of_getElem? (i := 90) rfl) rfl
theorem W6_91 : Cond.code yX9_row cX9_row 3 (Option.some Jvm.ClassFile.FieldType.int) ∈ BIG := T6 (List.mem_of_getElem? (i := 91) rfl) rfl
theorem W6_92 : Cond.methodLink RL 119 yX9_could ∈ BIG := T6 (List.mem_of_getElem? (i := 92) rfl) rfl
theorem W6_93 : Cond.instanceMethod yX9_could ∈ BIG := T6 (List.mem_of_getElem? (i := 93) rfl) rfl
theorem W6_94 : Cond.selects RX9 yX9_could yX9_could ∈ BIG := T6 (List.mem_of_getElem? (i := 94) rfl) rfl
theorem W6_95 : Cond.code yX9_could cX9_could 3 (Option.some Jvm.ClassFile.FieldType.int) ∈ BIG := T6 (List.mem_of_getElem? (i := 95) rfl) rfl
theorem W6_96 : Cond.methodLink RL 123 yX9_next ∈ BIG := T6 (List.mem_of_getElem? (i := 96) rfl) rfl
theorem W6_97 : Cond.instanceMethod yX9_next ∈ BIG := T6 (List.mem_of_getElem? (i := 97) rfl) rfl
theorem W6_98 : Cond.selects RX9 yX9_next yX9_next ∈ BIG := T6 (List.mem_of_getElem? (i := 98) rfl) rfl
theorem W6_99 : Cond.code yX9_next cX9_next 5 (Option.some Jvm.ClassFile.FieldType.int) ∈ BIG := T6 (List.mem_of_getElem? (i := 99) rfl) rfl
theorem W6_100 : Cond.methodLink RL 128 yX9_team ∈ BIG := T6 (List.mem_of_getElem? (i := 100) rfl) rfl
theorem W6_101 : Cond.instanceMethod yX9_team ∈ BIG := T6 (List.mem_of_getElem? (i := 101) rfl) rfl
theorem W6_102 : Cond.selects RX9 yX9_team yX9_team ∈ BIG := T6 (List.mem_of_getElem? (i := 102) rfl) rfl
theorem W6_103 : Cond.code yX9_team cX9_team 6 (Option.some Jvm.ClassFile.FieldType.int) ∈ BIG := T6 (List.mem_of_getElem? (i := 103) rfl) rfl
theorem W6_104 : Cond.methodLink RL 132 yX9_film ∈ BIG := T6 (List.mem_of_getElem? (i := 104) rfl) rfl
theorem W6_105 : Cond.instanceMethod yX9_film ∈ BIG := T6 (List.mem_of_getElem? (i := 105) rfl) rfl
theorem W6_106 : Cond.selects RX9 yX9_film yX9_film ∈ BIG := T6 (List.mem_of_getElem? (i := 106) rfl) rfl
theorem W6_107 : Cond.code yX9_film cX9_film 2 (Option.some Jvm.ClassFile.FieldType.int) ∈ BIG := T6 (List.mem_of_getElem? (i := 107) rfl) rfl
theorem W6_108 : Cond.methodLink RL 136 yX9_judge ∈ BIG := T6 (List.mem_of_getElem? (i := 108) rfl) rfl
theorem W6_109 : Cond.instanceMethod yX9_judge ∈ BIG := T6 (List.mem_of_getElem? (i := 109) rfl) rfl
theorem W6_110 : Cond.selects RX9 yX9_judge yX9_judge ∈ BIG := T6 (List.mem_of_getElem? (i := 110) rfl) rfl
theorem W6_111 : Cond.code yX9_judge cX9_judge 5 (Option.some Jvm.ClassFile.FieldType.int) ∈ BIG := T6 (List.mem_of_getElem? (i := 111) rfl) rfl
theorem W6_112 : Cond.methodLink RL 140 yX9_image ∈ BIG := T6 (List.mem_of_getElem? (i := 112) rfl) rfl
theorem W6_113 : Cond.instanceMethod yX9_image ∈ BIG := T6 (List.mem_of_getElem? (i := 113) rfl) rfl
theorem W6_114 : Cond.selects RX9 yX9_image yX9_image ∈ BIG := T6 (List.mem_of_getElem? (i := 114) rfl) rfl
theorem W6_115 : Cond.code yX9_image cX9_image 1 (Option.some Jvm.ClassFile.FieldType.int) ∈ BIG := T6 (List.mem_of_getElem? (i := 115) rfl) rfl
theorem W6_116 : Cond.methodLink RL 144 yX9_restore ∈ BIG := T6 (List.mem_of_getElem? (i := 116) rfl) rfl
theorem W6_117 : Cond.instanceMethod yX9_restore ∈ BIG := T6 (List.mem_of_getElem? (i := 117) rfl) rfl
theorem W6_118 : Cond.selects RX9 yX9_restore yX9_restore ∈ BIG := T6 (List.mem_of_getElem? (i := 118) rfl) rfl
theorem W6_119 : Cond.code yX9_restore cX9_restore 1 (Option.some Jvm.ClassFile.FieldType.int) ∈ BIG := T6 (List.mem_of_getElem? (i := 119) rfl) rfl
theorem W6_120 : Cond.methodLink RL 148 yX9_count ∈ BIG := T6 (List.mem_of_getElem? (i := 120) rfl) rfl
theorem W6_121 : Cond.instanceMethod yX9_count ∈ BIG := T6 (List.mem_of_getElem? (i := 121) rfl) rfl
theorem W6_122 : Cond.selects RX9 yX9_count yX9_count ∈ BIG := T6 (List.mem_of_getElem? (i := 122) rfl) rfl
theorem W6_123 : Cond.code yX9_count cX9_count 2 (Option.some Jvm.ClassFile.FieldType.int) ∈ BIG := T6 (List.mem_of_getElem? (i := 123) rfl) rfl
theorem W6_124 : Cond.constantLong RL 13 (4294967295) ∈ BIG := T6 (List.mem_of_getElem? (i := 124) rfl) rfl
theorem W6_125 : Cond.fieldLink RJ0 9 "java/lang/String" "value" "[B" ∈ BIG := T6 (List.mem_of_getElem? (i := 125) rfl) rfl
theorem W6_126 : Cond.fieldLink RJ0 15 "java/lang/String" "coder" "B" ∈ BIG := T6 (List.mem_of_getElem? (i := 126) rfl) rfl
theorem WP_0 : Cond.selects RX8 yX8_refuse yX8_refuse ∈ BIG := TP (List.mem_of_getElem? (i := 0) rfl) rfl
theorem WP_1 : Cond.selects RX6 yX6_begin yX6_begin ∈ BIG := TP (List.mem_of_getElem? (i := 1) rfl) rfl
theorem WP_2 : Cond.selects RX6 yX6_readStatement yX6_readStatement ∈ BIG := TP (List.mem_of_getElem? (i := 2) rfl) rfl
theorem WP_3 : Cond.selects RX6 yX6_signAhead yX6_signAhead ∈ BIG := TP (List.mem_of_getElem? (i := 3) rfl) rfl
theorem WP_4 : Cond.selects RX6 yX6_readPart yX6_readPart ∈ BIG := TP (List.mem_of_getElem? (i := 4) rfl) rfl
theorem WP_5 : Cond.selects RX6 yX6_readDigits yX6_readDigits ∈ BIG := TP (List.mem_of_getElem? (i := 5) rfl) rfl
theorem WP_6 : Cond.selects RX6 yX6_comesTrue yX6_comesTrue ∈ BIG := TP (List.mem_of_getElem? (i := 6) rfl) rfl
theorem WP_7 : Cond.selects RX6 yX6_resize yX6_resize ∈ BIG := TP (List.mem_of_getElem? (i := 7) rfl) rfl
theorem WP_8 : Cond.selects RX6 yX6_seatMore yX6_seatMore ∈ BIG := TP (List.mem_of_getElem? (i := 8) rfl) rfl
theorem WP_9 : Cond.selects RX6 yX6_walkerMore yX6_walkerMore ∈ BIG := TP (List.mem_of_getElem? (i := 9) rfl) rfl
theorem WP_10 : Cond.selects RX2 yX2_mark yX2_mark ∈ BIG := TP (List.mem_of_getElem? (i := 10) rfl) rfl
theorem WP_11 : Cond.selects RX6 yX6_newPlayer yX6_newPlayer ∈ BIG := TP (List.mem_of_getElem? (i := 11) rfl) rfl
theorem WP_12 : Cond.selects RX6 yX6_newForm yX6_newForm ∈ BIG := TP (List.mem_of_getElem? (i := 12) rfl) rfl
theorem WP_13 : Cond.selects RX2 yX2_walk yX2_walk ∈ BIG := TP (List.mem_of_getElem? (i := 13) rfl) rfl
theorem WP_14 : Cond.selects RX2 yX2_isLikedAtChair yX2_isLikedAtChair ∈ BIG := TP (List.mem_of_getElem? (i := 14) rfl) rfl
theorem WP_15 : Cond.selects RX5 yX5_measure yX5_measure ∈ BIG := TP (List.mem_of_getElem? (i := 15) rfl) rfl
theorem WP_16 : Cond.selects RX5 yX5_seatLeastHaste yX5_seatLeastHaste ∈ BIG := TP (List.mem_of_getElem? (i := 16) rfl) rfl
theorem WP_17 : Cond.selects RX5 yX5_giveWay yX5_giveWay ∈ BIG := TP (List.mem_of_getElem? (i := 17) rfl) rfl
theorem WP_18 : Cond.selects RX4 yX4_mostCrowdedChair yX4_mostCrowdedChair ∈ BIG := TP (List.mem_of_getElem? (i := 18) rfl) rfl
theorem WP_19 : Cond.selects RX4 yX4_wayOn yX4_wayOn ∈ BIG := TP (List.mem_of_getElem? (i := 19) rfl) rfl
theorem WP_20 : Cond.selects RX0 yX0_seatBehindTenth yX0_seatBehindTenth ∈ BIG := TP (List.mem_of_getElem? (i := 20) rfl) rfl
theorem WP_21 : Cond.selects RX0 yX0_countSeatedTimes yX0_countSeatedTimes ∈ BIG := TP (List.mem_of_getElem? (i := 21) rfl) rfl
theorem WP_22 : Cond.selects RX0 yX0_playOut yX0_playOut ∈ BIG := TP (List.mem_of_getElem? (i := 22) rfl) rfl
theorem WP_23 : Cond.selects RX8 yX8_whyNotSeeds yX8_whyNotSeeds ∈ BIG := TP (List.mem_of_getElem? (i := 23) rfl) rfl
theorem WP_24 : Cond.selects RX8 yX8_couldAllBeBy yX8_couldAllBeBy ∈ BIG := TP (List.mem_of_getElem? (i := 24) rfl) rfl
theorem WP_25 : Cond.selects RX9 yX9_isPlace yX9_isPlace ∈ BIG := TP (List.mem_of_getElem? (i := 25) rfl) rfl
theorem WP_26 : Cond.selects RX9 yX9_no yX9_no ∈ BIG := TP (List.mem_of_getElem? (i := 26) rfl) rfl
theorem WP_27 : Cond.selects RX9 yX9_chairs yX9_chairs ∈ BIG := TP (List.mem_of_getElem? (i := 27) rfl) rfl
theorem WP_28 : Cond.selects RX9 yX9_comesChair yX9_comesChair ∈ BIG := TP (List.mem_of_getElem? (i := 28) rfl) rfl
theorem WP_29 : Cond.selects RX9 yX9_isTaken yX9_isTaken ∈ BIG := TP (List.mem_of_getElem? (i := 29) rfl) rfl
theorem WP_30 : Cond.selects RX9 yX9_comesWalker yX9_comesWalker ∈ BIG := TP (List.mem_of_getElem? (i := 30) rfl) rfl
theorem WP_31 : Cond.selects RX9 yX9_isWalker yX9_isWalker ∈ BIG := TP (List.mem_of_getElem? (i := 31) rfl) rfl
theorem WP_32 : Cond.selects RX9 yX9_hasteOf yX9_hasteOf ∈ BIG := TP (List.mem_of_getElem? (i := 32) rfl) rfl
theorem WP_33 : Cond.selects RX9 yX9_far yX9_far ∈ BIG := TP (List.mem_of_getElem? (i := 33) rfl) rfl
theorem WP_34 : Cond.selects RX9 yX9_statement yX9_statement ∈ BIG := TP (List.mem_of_getElem? (i := 34) rfl) rfl
theorem WP_35 : Cond.selects RX9 yX9_sign yX9_sign ∈ BIG := TP (List.mem_of_getElem? (i := 35) rfl) rfl
theorem WP_36 : Cond.selects RX9 yX9_number yX9_number ∈ BIG := TP (List.mem_of_getElem? (i := 36) rfl) rfl
theorem WP_37 : Cond.selects RX9 yX9_takes yX9_takes ∈ BIG := TP (List.mem_of_getElem? (i := 37) rfl) rfl
theorem WP_38 : Cond.selects RX9 yX9_passesAll yX9_passesAll ∈ BIG := TP (List.mem_of_getElem? (i := 38) rfl) rfl
theorem WP_39 : Cond.selects RX9 yX9_passes yX9_passes ∈ BIG := TP (List.mem_of_getElem? (i := 39) rfl) rfl
theorem WP_40 : Cond.selects RX9 yX9_passOne yX9_passOne ∈ BIG := TP (List.mem_of_getElem? (i := 40) rfl) rfl
theorem WP_41 : Cond.selects RX9 yX9_comes yX9_comes ∈ BIG := TP (List.mem_of_getElem? (i := 41) rfl) rfl
theorem WP_42 : Cond.selects RX9 yX9_isOver yX9_isOver ∈ BIG := TP (List.mem_of_getElem? (i := 42) rfl) rfl
theorem WP_43 : Cond.selects RX9 yX9_ins yX9_ins ∈ BIG := TP (List.mem_of_getElem? (i := 43) rfl) rfl
theorem WP_44 : Cond.selects RX9 yX9_goesOn yX9_goesOn ∈ BIG := TP (List.mem_of_getElem? (i := 44) rfl) rfl
theorem WP_45 : Cond.selects RX9 yX9_walks yX9_walks ∈ BIG := TP (List.mem_of_getElem? (i := 45) rfl) rfl
theorem WP_46 : Cond.selects RX9 yX9_doesStop yX9_doesStop ∈ BIG := TP (List.mem_of_getElem? (i := 46) rfl) rfl
theorem WP_47 : Cond.selects RX9 yX9_stops yX9_stops ∈ BIG := TP (List.mem_of_getElem? (i := 47) rfl) rfl
theorem WP_48 : Cond.selects RX9 yX9_sit yX9_sit ∈ BIG := TP (List.mem_of_getElem? (i := 48) rfl) rfl
theorem WP_49 : Cond.selects RX9 yX9_seatsOne yX9_seatsOne ∈ BIG := TP (List.mem_of_getElem? (i := 49) rfl) rfl
theorem WP_50 : Cond.selects RX9 yX9_isSeat yX9_isSeat ∈ BIG := TP (List.mem_of_getElem? (i := 50) rfl) rfl
theorem WP_51 : Cond.selects RX9 yX9_mayReach yX9_mayReach ∈ BIG := TP (List.mem_of_getElem? (i := 51) rfl) rfl
theorem WP_52 : Cond.selects RX9 yX9_judges yX9_judges ∈ BIG := TP (List.mem_of_getElem? (i := 52) rfl) rfl
theorem WP_53 : Cond.selects RX9 yX9_goer yX9_goer ∈ BIG := TP (List.mem_of_getElem? (i := 53) rfl) rfl
theorem WP_54 : Cond.selects RX9 yX9_nearest yX9_nearest ∈ BIG := TP (List.mem_of_getElem? (i := 54) rfl) rfl
theorem WP_55 : Cond.selects RX9 yX9_leaver yX9_leaver ∈ BIG := TP (List.mem_of_getElem? (i := 55) rfl) rfl
theorem WP_56 : Cond.selects RX9 yX9_ways yX9_ways ∈ BIG := TP (List.mem_of_getElem? (i := 56) rfl) rfl
theorem WP_57 : Cond.selects RX9 yX9_isThere yX9_isThere ∈ BIG := TP (List.mem_of_getElem? (i := 57) rfl) rfl
theorem WP_58 : Cond.selects RX9 yX9_notOdds yX9_notOdds ∈ BIG := TP (List.mem_of_getElem? (i := 58) rfl) rfl
theorem WP_59 : Cond.selects RX9 yX9_oddsOf yX9_oddsOf ∈ BIG := TP (List.mem_of_getElem? (i := 59) rfl) rfl
theorem WP_60 : Cond.selects RX9 yX9_findOdds yX9_findOdds ∈ BIG := TP (List.mem_of_getElem? (i := 60) rfl) rfl
theorem WP_61 : Cond.selects RX9 yX9_oddsBy yX9_oddsBy ∈ BIG := TP (List.mem_of_getElem? (i := 61) rfl) rfl
theorem WP_62 : Cond.selects RX9 yX9_partyBy yX9_partyBy ∈ BIG := TP (List.mem_of_getElem? (i := 62) rfl) rfl
theorem WP_63 : Cond.selects RX9 yX9_plays yX9_plays ∈ BIG := TP (List.mem_of_getElem? (i := 63) rfl) rfl
theorem in0 : ∀ w ∈ u_ws RX0 TX0 5, w ∈ BIG := fun w h => by
  obtain ⟨k, hk, rfl⟩ := List.mem_map.mp h
  have hk := List.mem_range.mp hk
  match k, hk with
  | 0, _ => exact W1_221
  | 1, _ => exact W1_223
  | 2, _ => exact W1_225
  | 3, _ => exact W1_227
  | 4, _ => exact W1_229
  | n + 5, h => exact absurd h (by omega)
theorem in1 : ∀ w ∈ u_ws RX1 TX1 2, w ∈ BIG := fun w h => by
  obtain ⟨k, hk, rfl⟩ := List.mem_map.mp h
  have hk := List.mem_range.mp hk
  match k, hk with
  | 0, _ => exact W2_4
  | 1, _ => exact W2_6
  | n + 2, h => exact absurd h (by omega)
theorem in2 : ∀ w ∈ u_ws RX2 TX2 10, w ∈ BIG := fun w h => by
  obtain ⟨k, hk, rfl⟩ := List.mem_map.mp h
  have hk := List.mem_range.mp hk
  match k, hk with
  | 0, _ => exact W1_194
  | 1, _ => exact W1_196
  | 2, _ => exact W1_198
  | 3, _ => exact W1_200
  | 4, _ => exact W1_202
  | 5, _ => exact W1_204
  | 6, _ => exact W1_206
  | 7, _ => exact W1_208
  | 8, _ => exact W1_210
  | 9, _ => exact W1_212
  | n + 10, h => exact absurd h (by omega)
theorem in3 : ∀ w ∈ u_ws RX3 TX3 3, w ∈ BIG := fun w h => by
  obtain ⟨k, hk, rfl⟩ := List.mem_map.mp h
  have hk := List.mem_range.mp hk
  match k, hk with
  | 0, _ => exact W1_84
  | 1, _ => exact W1_86
  | 2, _ => exact W1_88
  | n + 3, h => exact absurd h (by omega)
theorem in4 : ∀ w ∈ u_ws RX4 TX4 4, w ∈ BIG := fun w h => by
  obtain ⟨k, hk, rfl⟩ := List.mem_map.mp h
  have hk := List.mem_range.mp hk
  match k, hk with
  | 0, _ => exact W1_55
  | 1, _ => exact W1_57
  | 2, _ => exact W1_59
  | 3, _ => exact W1_61
  | n + 4, h => exact absurd h (by omega)
theorem in5 : ∀ w ∈ u_ws RX5 TX5 5, w ∈ BIG := fun w h => by
  obtain ⟨k, hk, rfl⟩ := List.mem_map.mp h
  have hk := List.mem_range.mp hk
  match k, hk with
  | 0, _ => exact W1_102
  | 1, _ => exact W1_104
  | 2, _ => exact W1_106
  | 3, _ => exact W1_108
  | 4, _ => exact W1_110
  | n + 5, h => exact absurd h (by omega)
theorem in6 : ∀ w ∈ u_ws RX6 TX6 6, w ∈ BIG := fun w h => by
  obtain ⟨k, hk, rfl⟩ := List.mem_map.mp h
  have hk := List.mem_range.mp hk
  match k, hk with
  | 0, _ => exact W2_23
  | 1, _ => exact W2_25
  | 2, _ => exact W2_27
  | 3, _ => exact W2_29
  | 4, _ => exact W2_31
  | 5, _ => exact W2_33
  | n + 6, h => exact absurd h (by omega)
theorem in7 : ∀ w ∈ u_ws RX7 TX7 9, w ∈ BIG := fun w h => by
  obtain ⟨k, hk, rfl⟩ := List.mem_map.mp h
  have hk := List.mem_range.mp hk
  match k, hk with
  | 0, _ => exact W1_143
  | 1, _ => exact W1_145
  | 2, _ => exact W1_147
  | 3, _ => exact W1_149
  | 4, _ => exact W1_151
  | 5, _ => exact W1_153
  | 6, _ => exact W1_155
  | 7, _ => exact W1_157
  | 8, _ => exact W1_159
  | n + 9, h => exact absurd h (by omega)
theorem in8 : ∀ w ∈ u_ws RX8 TX8 8, w ∈ BIG := fun w h => by
  obtain ⟨k, hk, rfl⟩ := List.mem_map.mp h
  have hk := List.mem_range.mp hk
  match k, hk with
  | 0, _ => exact W2_45
  | 1, _ => exact W2_47
  | 2, _ => exact W2_49
  | 3, _ => exact W2_51
  | 4, _ => exact W2_53
  | 5, _ => exact W2_55
  | 6, _ => exact W2_57
  | 7, _ => exact W2_59
  | n + 8, h => exact absurd h (by omega)
theorem in9 : ∀ w ∈ u_ws RX9 TX9 44, w ∈ BIG := fun w h => by
  obtain ⟨k, hk, rfl⟩ := List.mem_map.mp h
  have hk := List.mem_range.mp hk
  match k, hk with
  | 0, _ => exact W4_221
  | 1, _ => exact W4_223
  | 2, _ => exact W4_225
  | 3, _ => exact W4_227
  | 4, _ => exact W4_229
  | 5, _ => exact W4_231
  | 6, _ => exact W4_233
  | 7, _ => exact W4_235
  | 8, _ => exact W4_237
  | 9, _ => exact W4_239
  | 10, _ => exact W5_1
  | 11, _ => exact W5_3
  | 12, _ => exact W5_5
  | 13, _ => exact W5_7
  | 14, _ => exact W5_9
  | 15, _ => exact W5_11
  | 16, _ => exact W5_13
  | 17, _ => exact W5_15
  | 18, _ => exact W5_17
  | 19, _ => exact W5_19
  | 20, _ => exact W5_21
  | 21, _ => exact W5_23
  | 22, _ => exact W5_25
  | 23, _ => exact W5_27
  | 24, _ => exact W5_29
  | 25, _ => exact W5_31
  | 26, _ => exact W5_33
  | 27, _ => exact W5_35
  | 28, _ => exact W5_37
  | 29, _ => exact W5_39
  | 30, _ => exact W5_41
  | 31, _ => exact W5_43
  | 32, _ => exact W5_45
  | 33, _ => exact W5_47
  | 34, _ => exact W5_49
  | 35, _ => exact W5_51
  | 36, _ => exact W5_53
  | 37, _ => exact W5_55
  | 38, _ => exact W5_57
  | 39, _ => exact W5_59
  | 40, _ => exact W5_61
  | 41, _ => exact W5_63
  | 42, _ => exact W5_65
  | 43, _ => exact W5_67
  | n + 44, h => exact absurd h (by omega)
end
section
theorem dX0_init_0 : decode cX0_init 0 = .ok (.aload_n 0, 1) := by decide +kernel
theorem dX0_init_1 : decode cX0_init 1 = .ok (.invokespecial 3, 3) := by decide +kernel
theorem dX0_init_4 : decode cX0_init 4 = .ok (.aload_n 0, 1) := by decide +kernel
theorem dX0_init_5 : decode cX0_init 5 = .ok (.new 9, 3) := by decide +kernel
theorem dX0_init_8 : decode cX0_init 8 = .ok (.dup, 1) := by decide +kernel
theorem dX0_init_9 : decode cX0_init 9 = .ok (.invokespecial 11, 3) := by decide +kernel
theorem dX0_init_12 : decode cX0_init 12 = .ok (.putfield 12, 3) := by decide +kernel
theorem dX0_init_15 : decode cX0_init 15 = .ok (.aload_n 0, 1) := by decide +kernel
theorem dX0_init_16 : decode cX0_init 16 = .ok (.new 9, 3) := by decide +kernel
theorem dX0_init_19 : decode cX0_init 19 = .ok (.dup, 1) := by decide +kernel
theorem dX0_init_20 : decode cX0_init 20 = .ok (.invokespecial 11, 3) := by decide +kernel
theorem dX0_init_23 : decode cX0_init 23 = .ok (.putfield 18, 3) := by decide +kernel
theorem dX0_init_26 : decode cX0_init 26 = .ok (.aload_n 0, 1) := by decide +kernel
theorem dX0_init_27 : decode cX0_init 27 = .ok (.bipush 12, 2) := by decide +kernel
theorem dX0_init_29 : decode cX0_init 29 = .ok (.newarray .int, 2) := by decide +kernel
theorem dX0_init_31 : decode cX0_init 31 = .ok (.putfield 21, 3) := by decide +kernel
theorem dX0_init_34 : decode cX0_init 34 = .ok (.aload_n 0, 1) := by decide +kernel
theorem dX0_init_35 : decode cX0_init 35 = .ok (.iconst 0, 1) := by decide +kernel
theorem dX0_init_36 : decode cX0_init 36 = .ok (.putfield 25, 3) := by decide +kernel
theorem dX0_init_39 : decode cX0_init 39 = .ok (.aload_n 0, 1) := by decide +kernel
theorem dX0_init_40 : decode cX0_init 40 = .ok (.iconst 0, 1) := by decide +kernel
theorem dX0_init_41 : decode cX0_init 41 = .ok (.putfield 29, 3) := by decide +kernel
theorem dX0_init_44 : decode cX0_init 44 = .ok (.return_, 1) := by decide +kernel
theorem dX0_readParty_0 : decode cX0_readParty 0 = .ok (.aload_n 1, 1) := by decide +kernel
theorem dX0_readParty_1 : decode cX0_readParty 1 = .ok (.invokevirtual 32, 3) := by decide +kernel
theorem dX0_readParty_4 : decode cX0_readParty 4 = .ok (.istore_n 2, 1) := by decide +kernel
theorem dX0_readParty_5 : decode cX0_readParty 5 = .ok (.iload_n 2, 1) := by decide +kernel
theorem dX0_readParty_6 : decode cX0_readParty 6 = .ok (.ifCond .lt 9, 3) := by decide +kernel
theorem dX0_readParty_9 : decode cX0_readParty 9 = .ok (.sipush (-1000), 3) := by decide +kernel
theorem dX0_readParty_12 : decode cX0_readParty 12 = .ok (.iload_n 2, 1) := by decide +kernel
theorem dX0_readParty_13 : decode cX0_readParty 13 = .ok (.isub, 1) := by decide +kernel
theorem dX0_readParty_14 : decode cX0_readParty 14 = .ok (.ireturn, 1) := by decide +kernel
theorem dX0_readParty_15 : decode cX0_readParty 15 = .ok (.aload_n 0, 1) := by decide +kernel
theorem dX0_readParty_16 : decode cX0_readParty 16 = .ok (.getfield 18, 3) := by decide +kernel
theorem dX0_readParty_19 : decode cX0_readParty 19 = .ok (.aload_n 0, 1) := by decide +kernel
theorem dX0_readParty_20 : decode cX0_readParty 20 = .ok (.getfield 12, 3) := by decide +kernel
theorem dX0_readParty_23 : decode cX0_readParty 23 = .ok (.invokevirtual 38, 3) := by decide +kernel
theorem dX0_readParty_26 : decode cX0_readParty 26 = .ok (.aload_n 1, 1) := by decide +kernel
theorem dX0_readParty_27 : decode cX0_readParty 27 = .ok (.aload_n 0, 1) := by decide +kernel
theorem dX0_readParty_28 : decode cX0_readParty 28 = .ok (.getfield 18, 3) := by decide +kernel
theorem dX0_readParty_31 : decode cX0_readParty 31 = .ok (.invokevirtual 42, 3) := by decide +kernel
theorem dX0_readParty_34 : decode cX0_readParty 34 = .ok (.istore_n 2, 1) := by decide +kernel
theorem dX0_readParty_35 : decode cX0_readParty 35 = .ok (.iload_n 2, 1) := by decide +kernel
theorem dX0_readParty_36 : decode cX0_readParty 36 = .ok (.ifCond .lt 9, 3) := by decide +kernel
theorem dX0_readParty_39 : decode cX0_readParty 39 = .ok (.sipush (-2000), 3) := by decide +kernel
theorem dX0_readParty_42 : decode cX0_readParty 42 = .ok (.iload_n 2, 1) := by decide +kernel
theorem dX0_readParty_43 : decode cX0_readParty 43 = .ok (.isub, 1) := by decide +kernel
theorem dX0_readParty_44 : decode cX0_readParty 44 = .ok (.ireturn, 1) := by decide +kernel
theorem dX0_readParty_45 : decode cX0_readParty 45 = .ok (.aload_n 0, 1) := by decide +kernel
theorem dX0_readParty_46 : decode cX0_readParty 46 = .ok (.getfield 12, 3) := by decide +kernel
theorem dX0_readParty_49 : decode cX0_readParty 49 = .ok (.aload_n 0, 1) := by decide +kernel
theorem dX0_readParty_50 : decode cX0_readParty 50 = .ok (.getfield 18, 3) := by decide +kernel
theorem dX0_readParty_53 : decode cX0_readParty 53 = .ok (.invokevirtual 38, 3) := by decide +kernel
theorem dX0_readParty_56 : decode cX0_readParty 56 = .ok (.aload_n 1, 1) := by decide +kernel
theorem dX0_readParty_57 : decode cX0_readParty 57 = .ok (.getfield 46, 3) := by decide +kernel
theorem dX0_readParty_60 : decode cX0_readParty 60 = .ok (.ireturn, 1) := by decide +kernel
theorem dX0_oddsAt_0 : decode cX0_oddsAt 0 = .ok (.aload_n 0, 1) := by decide +kernel
theorem dX0_oddsAt_1 : decode cX0_oddsAt 1 = .ok (.getfield 18, 3) := by decide +kernel
theorem dX0_oddsAt_4 : decode cX0_oddsAt 4 = .ok (.aload_n 0, 1) := by decide +kernel
theorem dX0_oddsAt_5 : decode cX0_oddsAt 5 = .ok (.getfield 12, 3) := by decide +kernel
theorem dX0_oddsAt_8 : decode cX0_oddsAt 8 = .ok (.invokevirtual 38, 3) := by decide +kernel
theorem dX0_oddsAt_11 : decode cX0_oddsAt 11 = .ok (.aload_n 0, 1) := by decide +kernel
theorem dX0_oddsAt_12 : decode cX0_oddsAt 12 = .ok (.getfield 18, 3) := by decide +kernel
theorem dX0_oddsAt_15 : decode cX0_oddsAt 15 = .ok (.iload_n 1, 1) := by decide +kernel
theorem dX0_oddsAt_16 : decode cX0_oddsAt 16 = .ok (.invokevirtual 49, 3) := by decide +kernel
theorem dX0_oddsAt_19 : decode cX0_oddsAt 19 = .ok (.ifCond .ne 5, 3) := by decide +kernel
theorem dX0_oddsAt_22 : decode cX0_oddsAt 22 = .ok (.iconst 0, 1) := by decide +kernel
theorem dX0_oddsAt_23 : decode cX0_oddsAt 23 = .ok (.ireturn, 1) := by decide +kernel
theorem dX0_oddsAt_24 : decode cX0_oddsAt 24 = .ok (.aload_n 0, 1) := by decide +kernel
theorem dX0_oddsAt_25 : decode cX0_oddsAt 25 = .ok (.getfield 18, 3) := by decide +kernel
theorem dX0_oddsAt_28 : decode cX0_oddsAt 28 = .ok (.getfield 53, 3) := by decide +kernel
theorem dX0_oddsAt_31 : decode cX0_oddsAt 31 = .ok (.iload_n 1, 1) := by decide +kernel
theorem dX0_oddsAt_32 : decode cX0_oddsAt 32 = .ok (.aaload, 1) := by decide +kernel
theorem dX0_oddsAt_33 : decode cX0_oddsAt 33 = .ok (.iload_n 3, 1) := by decide +kernel
theorem dX0_oddsAt_34 : decode cX0_oddsAt 34 = .ok (.putfield 57, 3) := by decide +kernel
theorem dX0_oddsAt_37 : decode cX0_oddsAt 37 = .ok (.iconst 0, 1) := by decide +kernel
theorem dX0_oddsAt_38 : decode cX0_oddsAt 38 = .ok (.istore 4, 2) := by decide +kernel
theorem dX0_oddsAt_40 : decode cX0_oddsAt 40 = .ok (.iconst 0, 1) := by decide +kernel
theorem dX0_oddsAt_41 : decode cX0_oddsAt 41 = .ok (.istore 5, 2) := by decide +kernel
theorem dX0_oddsAt_43 : decode cX0_oddsAt 43 = .ok (.iload 5, 2) := by decide +kernel
theorem dX0_oddsAt_45 : decode cX0_oddsAt 45 = .ok (.iload_n 2, 1) := by decide +kernel
theorem dX0_oddsAt_46 : decode cX0_oddsAt 46 = .ok (.if_icmp .ge 30, 3) := by decide +kernel
theorem dX0_oddsAt_49 : decode cX0_oddsAt 49 = .ok (.aload_n 0, 1) := by decide +kernel
theorem dX0_oddsAt_50 : decode cX0_oddsAt 50 = .ok (.invokevirtual 62, 3) := by decide +kernel
theorem dX0_oddsAt_53 : decode cX0_oddsAt 53 = .ok (.aload_n 0, 1) := by decide +kernel
theorem dX0_oddsAt_54 : decode cX0_oddsAt 54 = .ok (.getfield 18, 3) := by decide +kernel
theorem dX0_oddsAt_57 : decode cX0_oddsAt 57 = .ok (.getfield 65, 3) := by decide +kernel
theorem dX0_oddsAt_60 : decode cX0_oddsAt 60 = .ok (.iload_n 1, 1) := by decide +kernel
theorem dX0_oddsAt_61 : decode cX0_oddsAt 61 = .ok (.invokevirtual 69, 3) := by decide +kernel
theorem dX0_oddsAt_64 : decode cX0_oddsAt 64 = .ok (.ifCond .eq 6, 3) := by decide +kernel
theorem dX0_oddsAt_67 : decode cX0_oddsAt 67 = .ok (.iinc 4 1, 3) := by decide +kernel
theorem dX0_oddsAt_70 : decode cX0_oddsAt 70 = .ok (.iinc 5 1, 3) := by decide +kernel
theorem dX0_oddsAt_73 : decode cX0_oddsAt 73 = .ok (.goto (-30), 3) := by decide +kernel
theorem dX0_oddsAt_76 : decode cX0_oddsAt 76 = .ok (.iload 4, 2) := by decide +kernel
theorem dX0_oddsAt_78 : decode cX0_oddsAt 78 = .ok (.ireturn, 1) := by decide +kernel
theorem dX0_unfairness_0 : decode cX0_unfairness 0 = .ok (.aload_n 0, 1) := by decide +kernel
theorem dX0_unfairness_1 : decode cX0_unfairness 1 = .ok (.iload_n 1, 1) := by decide +kernel
theorem dX0_unfairness_2 : decode cX0_unfairness 2 = .ok (.invokevirtual 74, 3) := by decide +kernel
theorem dX0_unfairness_5 : decode cX0_unfairness 5 = .ok (.iconst 0, 1) := by decide +kernel
theorem dX0_unfairness_6 : decode cX0_unfairness 6 = .ok (.istore_n 2, 1) := by decide +kernel
theorem dX0_unfairness_7 : decode cX0_unfairness 7 = .ok (.iload_n 1, 1) := by decide +kernel
theorem dX0_unfairness_8 : decode cX0_unfairness 8 = .ok (.istore_n 3, 1) := by decide +kernel
theorem dX0_unfairness_9 : decode cX0_unfairness 9 = .ok (.iconst 0, 1) := by decide +kernel
theorem dX0_unfairness_10 : decode cX0_unfairness 10 = .ok (.istore 4, 2) := by decide +kernel
theorem dX0_unfairness_12 : decode cX0_unfairness 12 = .ok (.iload 4, 2) := by decide +kernel
theorem dX0_unfairness_14 : decode cX0_unfairness 14 = .ok (.bipush 12, 2) := by decide +kernel
theorem dX0_unfairness_16 : decode cX0_unfairness 16 = .ok (.if_icmp .ge 45, 3) := by decide +kernel
theorem dX0_unfairness_19 : decode cX0_unfairness 19 = .ok (.aload_n 0, 1) := by decide +kernel
theorem dX0_unfairness_20 : decode cX0_unfairness 20 = .ok (.getfield 12, 3) := by decide +kernel
theorem dX0_unfairness_23 : decode cX0_unfairness 23 = .ok (.iload 4, 2) := by decide +kernel
theorem dX0_unfairness_25 : decode cX0_unfairness 25 = .ok (.invokevirtual 49, 3) := by decide +kernel
theorem dX0_unfairness_28 : decode cX0_unfairness 28 = .ok (.ifCond .eq 27, 3) := by decide +kernel
theorem dX0_unfairness_31 : decode cX0_unfairness 31 = .ok (.iload_n 2, 1) := by decide +kernel
theorem dX0_unfairness_32 : decode cX0_unfairness 32 = .ok (.aload_n 0, 1) := by decide +kernel
theorem dX0_unfairness_33 : decode cX0_unfairness 33 = .ok (.getfield 21, 3) := by decide +kernel
theorem dX0_unfairness_36 : decode cX0_unfairness 36 = .ok (.iload 4, 2) := by decide +kernel
theorem dX0_unfairness_38 : decode cX0_unfairness 38 = .ok (.iaload, 1) := by decide +kernel
theorem dX0_unfairness_39 : decode cX0_unfairness 39 = .ok (.invokestatic 78, 3) := by decide +kernel
theorem dX0_unfairness_42 : decode cX0_unfairness 42 = .ok (.istore_n 2, 1) := by decide +kernel
theorem dX0_unfairness_43 : decode cX0_unfairness 43 = .ok (.iload_n 3, 1) := by decide +kernel
theorem dX0_unfairness_44 : decode cX0_unfairness 44 = .ok (.aload_n 0, 1) := by decide +kernel
theorem dX0_unfairness_45 : decode cX0_unfairness 45 = .ok (.getfield 21, 3) := by decide +kernel
theorem dX0_unfairness_48 : decode cX0_unfairness 48 = .ok (.iload 4, 2) := by decide +kernel
theorem dX0_unfairness_50 : decode cX0_unfairness 50 = .ok (.iaload, 1) := by decide +kernel
theorem dX0_unfairness_51 : decode cX0_unfairness 51 = .ok (.invokestatic 84, 3) := by decide +kernel
theorem dX0_unfairness_54 : decode cX0_unfairness 54 = .ok (.istore_n 3, 1) := by decide +kernel
theorem dX0_unfairness_55 : decode cX0_unfairness 55 = .ok (.iinc 4 1, 3) := by decide +kernel
theorem dX0_unfairness_58 : decode cX0_unfairness 58 = .ok (.goto (-46), 3) := by decide +kernel
theorem dX0_unfairness_61 : decode cX0_unfairness 61 = .ok (.iconst 0, 1) := by decide +kernel
theorem dX0_unfairness_62 : decode cX0_unfairness 62 = .ok (.iload_n 2, 1) := by decide +kernel
theorem dX0_unfairness_63 : decode cX0_unfairness 63 = .ok (.iload_n 3, 1) := by decide +kernel
theorem dX0_unfairness_64 : decode cX0_unfairness 64 = .ok (.isub, 1) := by decide +kernel
theorem dX0_unfairness_65 : decode cX0_unfairness 65 = .ok (.invokestatic 78, 3) := by decide +kernel
theorem dX0_unfairness_68 : decode cX0_unfairness 68 = .ok (.ireturn, 1) := by decide +kernel
theorem dX0_slowOfGreatestOdds_0 : decode cX0_slowOfGreatestOdds 0 = .ok (.bipush 10, 2) := by decide +kernel
theorem dX0_slowOfGreatestOdds_2 : decode cX0_slowOfGreatestOdds 2 = .ok (.istore_n 3, 1) := by decide +kernel
theorem dX0_slowOfGreatestOdds_3 : decode cX0_slowOfGreatestOdds 3 = .ok (.iconst (-1), 1) := by decide +kernel
theorem dX0_slowOfGreatestOdds_4 : decode cX0_slowOfGreatestOdds 4 = .ok (.istore 4, 2) := by decide +kernel
theorem dX0_slowOfGreatestOdds_6 : decode cX0_slowOfGreatestOdds 6 = .ok (.bipush 10, 2) := by decide +kernel
theorem dX0_slowOfGreatestOdds_8 : decode cX0_slowOfGreatestOdds 8 = .ok (.istore 5, 2) := by decide +kernel
theorem dX0_slowOfGreatestOdds_10 : decode cX0_slowOfGreatestOdds 10 = .ok (.iload 5, 2) := by decide +kernel
theorem dX0_slowOfGreatestOdds_12 : decode cX0_slowOfGreatestOdds 12 = .ok (.bipush 90, 2) := by decide +kernel
theorem dX0_slowOfGreatestOdds_14 : decode cX0_slowOfGreatestOdds 14 = .ok (.if_icmp .gt 33, 3) := by decide +kernel
theorem dX0_slowOfGreatestOdds_17 : decode cX0_slowOfGreatestOdds 17 = .ok (.aload_n 0, 1) := by decide +kernel
theorem dX0_slowOfGreatestOdds_18 : decode cX0_slowOfGreatestOdds 18 = .ok (.iload_n 1, 1) := by decide +kernel
theorem dX0_slowOfGreatestOdds_19 : decode cX0_slowOfGreatestOdds 19 = .ok (.iload_n 2, 1) := by decide +kernel
theorem dX0_slowOfGreatestOdds_20 : decode cX0_slowOfGreatestOdds 20 = .ok (.iload 5, 2) := by decide +kernel
theorem dX0_slowOfGreatestOdds_22 : decode cX0_slowOfGreatestOdds 22 = .ok (.invokevirtual 87, 3) := by decide +kernel
theorem dX0_slowOfGreatestOdds_25 : decode cX0_slowOfGreatestOdds 25 = .ok (.istore 6, 2) := by decide +kernel
theorem dX0_slowOfGreatestOdds_27 : decode cX0_slowOfGreatestOdds 27 = .ok (.iload 6, 2) := by decide +kernel
theorem dX0_slowOfGreatestOdds_29 : decode cX0_slowOfGreatestOdds 29 = .ok (.iload 4, 2) := by decide +kernel
theorem dX0_slowOfGreatestOdds_31 : decode cX0_slowOfGreatestOdds 31 = .ok (.if_icmp .le 10, 3) := by decide +kernel
theorem dX0_slowOfGreatestOdds_34 : decode cX0_slowOfGreatestOdds 34 = .ok (.iload 6, 2) := by decide +kernel
theorem dX0_slowOfGreatestOdds_36 : decode cX0_slowOfGreatestOdds 36 = .ok (.istore 4, 2) := by decide +kernel
theorem dX0_slowOfGreatestOdds_38 : decode cX0_slowOfGreatestOdds 38 = .ok (.iload 5, 2) := by decide +kernel
theorem dX0_slowOfGreatestOdds_40 : decode cX0_slowOfGreatestOdds 40 = .ok (.istore_n 3, 1) := by decide +kernel
theorem dX0_slowOfGreatestOdds_41 : decode cX0_slowOfGreatestOdds 41 = .ok (.iinc 5 10, 3) := by decide +kernel
theorem dX0_slowOfGreatestOdds_44 : decode cX0_slowOfGreatestOdds 44 = .ok (.goto (-34), 3) := by decide +kernel
theorem dX0_slowOfGreatestOdds_47 : decode cX0_slowOfGreatestOdds 47 = .ok (.iload_n 3, 1) := by decide +kernel
theorem dX0_slowOfGreatestOdds_48 : decode cX0_slowOfGreatestOdds 48 = .ok (.ireturn, 1) := by decide +kernel
theorem dX0_gainOfCheating_0 : decode cX0_gainOfCheating 0 = .ok (.aload_n 0, 1) := by decide +kernel
theorem dX0_gainOfCheating_1 : decode cX0_gainOfCheating 1 = .ok (.getfield 12, 3) := by decide +kernel
theorem dX0_gainOfCheating_4 : decode cX0_gainOfCheating 4 = .ok (.iload_n 1, 1) := by decide +kernel
theorem dX0_gainOfCheating_5 : decode cX0_gainOfCheating 5 = .ok (.invokevirtual 49, 3) := by decide +kernel
theorem dX0_gainOfCheating_8 : decode cX0_gainOfCheating 8 = .ok (.ifCond .ne 5, 3) := by decide +kernel
theorem dX0_gainOfCheating_11 : decode cX0_gainOfCheating 11 = .ok (.iconst 0, 1) := by decide +kernel
theorem dX0_gainOfCheating_12 : decode cX0_gainOfCheating 12 = .ok (.ireturn, 1) := by decide +kernel
theorem dX0_gainOfCheating_13 : decode cX0_gainOfCheating 13 = .ok (.aload_n 0, 1) := by decide +kernel
theorem dX0_gainOfCheating_14 : decode cX0_gainOfCheating 14 = .ok (.iload_n 1, 1) := by decide +kernel
theorem dX0_gainOfCheating_15 : decode cX0_gainOfCheating 15 = .ok (.iload_n 2, 1) := by decide +kernel
theorem dX0_gainOfCheating_16 : decode cX0_gainOfCheating 16 = .ok (.aload_n 0, 1) := by decide +kernel
theorem dX0_gainOfCheating_17 : decode cX0_gainOfCheating 17 = .ok (.getfield 12, 3) := by decide +kernel
theorem dX0_gainOfCheating_20 : decode cX0_gainOfCheating 20 = .ok (.getfield 53, 3) := by decide +kernel
theorem dX0_gainOfCheating_23 : decode cX0_gainOfCheating 23 = .ok (.iload_n 1, 1) := by decide +kernel
theorem dX0_gainOfCheating_24 : decode cX0_gainOfCheating 24 = .ok (.aaload, 1) := by decide +kernel
theorem dX0_gainOfCheating_25 : decode cX0_gainOfCheating 25 = .ok (.getfield 57, 3) := by decide +kernel
theorem dX0_gainOfCheating_28 : decode cX0_gainOfCheating 28 = .ok (.invokevirtual 87, 3) := by decide +kernel
theorem dX0_gainOfCheating_31 : decode cX0_gainOfCheating 31 = .ok (.istore_n 3, 1) := by decide +kernel
theorem dX0_gainOfCheating_32 : decode cX0_gainOfCheating 32 = .ok (.iconst 1, 1) := by decide +kernel
theorem dX0_gainOfCheating_33 : decode cX0_gainOfCheating 33 = .ok (.istore 4, 2) := by decide +kernel
theorem dX0_gainOfCheating_35 : decode cX0_gainOfCheating 35 = .ok (.iload 4, 2) := by decide +kernel
theorem dX0_gainOfCheating_37 : decode cX0_gainOfCheating 37 = .ok (.bipush 91, 2) := by decide +kernel
theorem dX0_gainOfCheating_39 : decode cX0_gainOfCheating 39 = .ok (.if_icmp .gt 35, 3) := by decide +kernel
theorem dX0_gainOfCheating_42 : decode cX0_gainOfCheating 42 = .ok (.iload_n 3, 1) := by decide +kernel
theorem dX0_gainOfCheating_43 : decode cX0_gainOfCheating 43 = .ok (.iload_n 2, 1) := by decide +kernel
theorem dX0_gainOfCheating_44 : decode cX0_gainOfCheating 44 = .ok (.if_icmp .ge 30, 3) := by decide +kernel
theorem dX0_gainOfCheating_47 : decode cX0_gainOfCheating 47 = .ok (.aload_n 0, 1) := by decide +kernel
theorem dX0_gainOfCheating_48 : decode cX0_gainOfCheating 48 = .ok (.iload_n 1, 1) := by decide +kernel
theorem dX0_gainOfCheating_49 : decode cX0_gainOfCheating 49 = .ok (.iload_n 2, 1) := by decide +kernel
theorem dX0_gainOfCheating_50 : decode cX0_gainOfCheating 50 = .ok (.iload 4, 2) := by decide +kernel
theorem dX0_gainOfCheating_52 : decode cX0_gainOfCheating 52 = .ok (.invokevirtual 87, 3) := by decide +kernel
theorem dX0_gainOfCheating_55 : decode cX0_gainOfCheating 55 = .ok (.istore 5, 2) := by decide +kernel
theorem dX0_gainOfCheating_57 : decode cX0_gainOfCheating 57 = .ok (.iload 5, 2) := by decide +kernel
theorem dX0_gainOfCheating_59 : decode cX0_gainOfCheating 59 = .ok (.iload_n 3, 1) := by decide +kernel
theorem dX0_gainOfCheating_60 : decode cX0_gainOfCheating 60 = .ok (.if_icmp .le 8, 3) := by decide +kernel
theorem dX0_gainOfCheating_63 : decode cX0_gainOfCheating 63 = .ok (.iload 5, 2) := by decide +kernel
theorem dX0_gainOfCheating_65 : decode cX0_gainOfCheating 65 = .ok (.iload_n 3, 1) := by decide +kernel
theorem dX0_gainOfCheating_66 : decode cX0_gainOfCheating 66 = .ok (.isub, 1) := by decide +kernel
theorem dX0_gainOfCheating_67 : decode cX0_gainOfCheating 67 = .ok (.ireturn, 1) := by decide +kernel
theorem dX0_gainOfCheating_68 : decode cX0_gainOfCheating 68 = .ok (.iinc 4 10, 3) := by decide +kernel
theorem dX0_gainOfCheating_71 : decode cX0_gainOfCheating 71 = .ok (.goto (-36), 3) := by decide +kernel
theorem dX0_gainOfCheating_74 : decode cX0_gainOfCheating 74 = .ok (.iconst 0, 1) := by decide +kernel
theorem dX0_gainOfCheating_75 : decode cX0_gainOfCheating 75 = .ok (.ireturn, 1) := by decide +kernel
theorem dX0_partyAhead_0 : decode cX0_partyAhead 0 = .ok (.aload_n 0, 1) := by decide +kernel
theorem dX0_partyAhead_1 : decode cX0_partyAhead 1 = .ok (.getfield 18, 3) := by decide +kernel
theorem dX0_partyAhead_4 : decode cX0_partyAhead 4 = .ok (.aload_n 0, 1) := by decide +kernel
theorem dX0_partyAhead_5 : decode cX0_partyAhead 5 = .ok (.getfield 12, 3) := by decide +kernel
theorem dX0_partyAhead_8 : decode cX0_partyAhead 8 = .ok (.invokevirtual 38, 3) := by decide +kernel
theorem dX0_partyAhead_11 : decode cX0_partyAhead 11 = .ok (.aload_n 0, 1) := by decide +kernel
theorem dX0_partyAhead_12 : decode cX0_partyAhead 12 = .ok (.invokevirtual 91, 3) := by decide +kernel
theorem dX0_partyAhead_15 : decode cX0_partyAhead 15 = .ok (.iload_n 1, 1) := by decide +kernel
theorem dX0_partyAhead_16 : decode cX0_partyAhead 16 = .ok (.ifCond .ne 8, 3) := by decide +kernel
theorem dX0_partyAhead_19 : decode cX0_partyAhead 19 = .ok (.aload_n 0, 1) := by decide +kernel
theorem dX0_partyAhead_20 : decode cX0_partyAhead 20 = .ok (.getfield 25, 3) := by decide +kernel
theorem dX0_partyAhead_23 : decode cX0_partyAhead 23 = .ok (.ireturn, 1) := by decide +kernel
theorem dX0_partyAhead_24 : decode cX0_partyAhead 24 = .ok (.iload_n 1, 1) := by decide +kernel
theorem dX0_partyAhead_25 : decode cX0_partyAhead 25 = .ok (.iconst 1, 1) := by decide +kernel
theorem dX0_partyAhead_26 : decode cX0_partyAhead 26 = .ok (.if_icmp .ne 10, 3) := by decide +kernel
theorem dX0_partyAhead_29 : decode cX0_partyAhead 29 = .ok (.aload_n 0, 1) := by decide +kernel
theorem dX0_partyAhead_30 : decode cX0_partyAhead 30 = .ok (.getfield 29, 3) := by decide +kernel
theorem dX0_partyAhead_33 : decode cX0_partyAhead 33 = .ok (.goto 10, 3) := by decide +kernel
theorem dX0_partyAhead_36 : decode cX0_partyAhead 36 = .ok (.aload_n 0, 1) := by decide +kernel
theorem dX0_partyAhead_37 : decode cX0_partyAhead 37 = .ok (.getfield 18, 3) := by decide +kernel
theorem dX0_partyAhead_40 : decode cX0_partyAhead 40 = .ok (.invokevirtual 94, 3) := by decide +kernel
theorem dX0_partyAhead_43 : decode cX0_partyAhead 43 = .ok (.ireturn, 1) := by decide +kernel
theorem dX0_timesWinner_0 : decode cX0_timesWinner 0 = .ok (.iconst 0, 1) := by decide +kernel
theorem dX0_timesWinner_1 : decode cX0_timesWinner 1 = .ok (.istore 4, 2) := by decide +kernel
theorem dX0_timesWinner_3 : decode cX0_timesWinner 3 = .ok (.iconst 0, 1) := by decide +kernel
theorem dX0_timesWinner_4 : decode cX0_timesWinner 4 = .ok (.istore 5, 2) := by decide +kernel
theorem dX0_timesWinner_6 : decode cX0_timesWinner 6 = .ok (.iload 5, 2) := by decide +kernel
theorem dX0_timesWinner_8 : decode cX0_timesWinner 8 = .ok (.iload_n 2, 1) := by decide +kernel
theorem dX0_timesWinner_9 : decode cX0_timesWinner 9 = .ok (.if_icmp .ge 52, 3) := by decide +kernel
theorem dX0_timesWinner_12 : decode cX0_timesWinner 12 = .ok (.aload_n 0, 1) := by decide +kernel
theorem dX0_timesWinner_13 : decode cX0_timesWinner 13 = .ok (.getfield 18, 3) := by decide +kernel
theorem dX0_timesWinner_16 : decode cX0_timesWinner 16 = .ok (.aload_n 0, 1) := by decide +kernel
theorem dX0_timesWinner_17 : decode cX0_timesWinner 17 = .ok (.getfield 12, 3) := by decide +kernel
theorem dX0_timesWinner_20 : decode cX0_timesWinner 20 = .ok (.invokevirtual 38, 3) := by decide +kernel
theorem dX0_timesWinner_23 : decode cX0_timesWinner 23 = .ok (.aload_n 0, 1) := by decide +kernel
theorem dX0_timesWinner_24 : decode cX0_timesWinner 24 = .ok (.getfield 18, 3) := by decide +kernel
theorem dX0_timesWinner_27 : decode cX0_timesWinner 27 = .ok (.getfield 97, 3) := by decide +kernel
theorem dX0_timesWinner_30 : decode cX0_timesWinner 30 = .ok (.iload_n 3, 1) := by decide +kernel
theorem dX0_timesWinner_31 : decode cX0_timesWinner 31 = .ok (.iload 5, 2) := by decide +kernel
theorem dX0_timesWinner_33 : decode cX0_timesWinner 33 = .ok (.iadd, 1) := by decide +kernel
theorem dX0_timesWinner_34 : decode cX0_timesWinner 34 = .ok (.putfield 101, 3) := by decide +kernel
theorem dX0_timesWinner_37 : decode cX0_timesWinner 37 = .ok (.aload_n 0, 1) := by decide +kernel
theorem dX0_timesWinner_38 : decode cX0_timesWinner 38 = .ok (.invokevirtual 91, 3) := by decide +kernel
theorem dX0_timesWinner_41 : decode cX0_timesWinner 41 = .ok (.aload_n 0, 1) := by decide +kernel
theorem dX0_timesWinner_42 : decode cX0_timesWinner 42 = .ok (.getfield 18, 3) := by decide +kernel
theorem dX0_timesWinner_45 : decode cX0_timesWinner 45 = .ok (.invokevirtual 94, 3) := by decide +kernel
theorem dX0_timesWinner_48 : decode cX0_timesWinner 48 = .ok (.iload_n 1, 1) := by decide +kernel
theorem dX0_timesWinner_49 : decode cX0_timesWinner 49 = .ok (.if_icmp .ne 6, 3) := by decide +kernel
theorem dX0_timesWinner_52 : decode cX0_timesWinner 52 = .ok (.iinc 4 1, 3) := by decide +kernel
theorem dX0_timesWinner_55 : decode cX0_timesWinner 55 = .ok (.iinc 5 1, 3) := by decide +kernel
theorem dX0_timesWinner_58 : decode cX0_timesWinner 58 = .ok (.goto (-52), 3) := by decide +kernel
theorem dX0_timesWinner_61 : decode cX0_timesWinner 61 = .ok (.iload 4, 2) := by decide +kernel
theorem dX0_timesWinner_63 : decode cX0_timesWinner 63 = .ok (.ireturn, 1) := by decide +kernel
theorem dX0_formOfMostWinners_0 : decode cX0_formOfMostWinners 0 = .ok (.iconst 0, 1) := by decide +kernel
theorem dX0_formOfMostWinners_1 : decode cX0_formOfMostWinners 1 = .ok (.istore_n 3, 1) := by decide +kernel
theorem dX0_formOfMostWinners_2 : decode cX0_formOfMostWinners 2 = .ok (.iconst (-1), 1) := by decide +kernel
theorem dX0_formOfMostWinners_3 : decode cX0_formOfMostWinners 3 = .ok (.istore 4, 2) := by decide +kernel
theorem dX0_formOfMostWinners_5 : decode cX0_formOfMostWinners 5 = .ok (.iconst 0, 1) := by decide +kernel
theorem dX0_formOfMostWinners_6 : decode cX0_formOfMostWinners 6 = .ok (.istore 5, 2) := by decide +kernel
theorem dX0_formOfMostWinners_8 : decode cX0_formOfMostWinners 8 = .ok (.iconst 0, 1) := by decide +kernel
theorem dX0_formOfMostWinners_9 : decode cX0_formOfMostWinners 9 = .ok (.istore 6, 2) := by decide +kernel
theorem dX0_formOfMostWinners_11 : decode cX0_formOfMostWinners 11 = .ok (.iload 6, 2) := by decide +kernel
theorem dX0_formOfMostWinners_13 : decode cX0_formOfMostWinners 13 = .ok (.iconst 3, 1) := by decide +kernel
theorem dX0_formOfMostWinners_14 : decode cX0_formOfMostWinners 14 = .ok (.if_icmp .ge 131, 3) := by decide +kernel
theorem dX0_formOfMostWinners_17 : decode cX0_formOfMostWinners 17 = .ok (.iconst 0, 1) := by decide +kernel
theorem dX0_formOfMostWinners_18 : decode cX0_formOfMostWinners 18 = .ok (.istore 7, 2) := by decide +kernel
theorem dX0_formOfMostWinners_20 : decode cX0_formOfMostWinners 20 = .ok (.iconst 0, 1) := by decide +kernel
theorem dX0_formOfMostWinners_21 : decode cX0_formOfMostWinners 21 = .ok (.istore 8, 2) := by decide +kernel
theorem dX0_formOfMostWinners_23 : decode cX0_formOfMostWinners 23 = .ok (.iconst 0, 1) := by decide +kernel
theorem dX0_formOfMostWinners_24 : decode cX0_formOfMostWinners 24 = .ok (.istore 9, 2) := by decide +kernel
theorem dX0_formOfMostWinners_26 : decode cX0_formOfMostWinners 26 = .ok (.iload 9, 2) := by decide +kernel
theorem dX0_formOfMostWinners_28 : decode cX0_formOfMostWinners 28 = .ok (.iload_n 1, 1) := by decide +kernel
theorem dX0_formOfMostWinners_29 : decode cX0_formOfMostWinners 29 = .ok (.if_icmp .ge 71, 3) := by decide +kernel
theorem dX0_formOfMostWinners_32 : decode cX0_formOfMostWinners 32 = .ok (.aload_n 0, 1) := by decide +kernel
theorem dX0_formOfMostWinners_33 : decode cX0_formOfMostWinners 33 = .ok (.getfield 18, 3) := by decide +kernel
theorem dX0_formOfMostWinners_36 : decode cX0_formOfMostWinners 36 = .ok (.aload_n 0, 1) := by decide +kernel
theorem dX0_formOfMostWinners_37 : decode cX0_formOfMostWinners 37 = .ok (.getfield 12, 3) := by decide +kernel
theorem dX0_formOfMostWinners_40 : decode cX0_formOfMostWinners 40 = .ok (.invokevirtual 38, 3) := by decide +kernel
theorem dX0_formOfMostWinners_43 : decode cX0_formOfMostWinners 43 = .ok (.aload_n 0, 1) := by decide +kernel
theorem dX0_formOfMostWinners_44 : decode cX0_formOfMostWinners 44 = .ok (.getfield 18, 3) := by decide +kernel
theorem dX0_formOfMostWinners_47 : decode cX0_formOfMostWinners 47 = .ok (.iload 6, 2) := by decide +kernel
theorem dX0_formOfMostWinners_49 : decode cX0_formOfMostWinners 49 = .ok (.putfield 106, 3) := by decide +kernel
theorem dX0_formOfMostWinners_52 : decode cX0_formOfMostWinners 52 = .ok (.aload_n 0, 1) := by decide +kernel
theorem dX0_formOfMostWinners_53 : decode cX0_formOfMostWinners 53 = .ok (.getfield 18, 3) := by decide +kernel
theorem dX0_formOfMostWinners_56 : decode cX0_formOfMostWinners 56 = .ok (.getfield 97, 3) := by decide +kernel
theorem dX0_formOfMostWinners_59 : decode cX0_formOfMostWinners 59 = .ok (.iload_n 2, 1) := by decide +kernel
theorem dX0_formOfMostWinners_60 : decode cX0_formOfMostWinners 60 = .ok (.iload 9, 2) := by decide +kernel
theorem dX0_formOfMostWinners_62 : decode cX0_formOfMostWinners 62 = .ok (.iadd, 1) := by decide +kernel
theorem dX0_formOfMostWinners_63 : decode cX0_formOfMostWinners 63 = .ok (.putfield 101, 3) := by decide +kernel
theorem dX0_formOfMostWinners_66 : decode cX0_formOfMostWinners 66 = .ok (.aload_n 0, 1) := by decide +kernel
theorem dX0_formOfMostWinners_67 : decode cX0_formOfMostWinners 67 = .ok (.invokevirtual 91, 3) := by decide +kernel
theorem dX0_formOfMostWinners_70 : decode cX0_formOfMostWinners 70 = .ok (.iload 7, 2) := by decide +kernel
theorem dX0_formOfMostWinners_72 : decode cX0_formOfMostWinners 72 = .ok (.aload_n 0, 1) := by decide +kernel
theorem dX0_formOfMostWinners_73 : decode cX0_formOfMostWinners 73 = .ok (.getfield 18, 3) := by decide +kernel
theorem dX0_formOfMostWinners_76 : decode cX0_formOfMostWinners 76 = .ok (.invokevirtual 94, 3) := by decide +kernel
theorem dX0_formOfMostWinners_79 : decode cX0_formOfMostWinners 79 = .ok (.invokestatic 109, 3) := by decide +kernel
theorem dX0_formOfMostWinners_82 : decode cX0_formOfMostWinners 82 = .ok (.ior, 1) := by decide +kernel
theorem dX0_formOfMostWinners_83 : decode cX0_formOfMostWinners 83 = .ok (.istore 7, 2) := by decide +kernel
theorem dX0_formOfMostWinners_85 : decode cX0_formOfMostWinners 85 = .ok (.iload 8, 2) := by decide +kernel
theorem dX0_formOfMostWinners_87 : decode cX0_formOfMostWinners 87 = .ok (.aload_n 0, 1) := by decide +kernel
theorem dX0_formOfMostWinners_88 : decode cX0_formOfMostWinners 88 = .ok (.getfield 25, 3) := by decide +kernel
theorem dX0_formOfMostWinners_91 : decode cX0_formOfMostWinners 91 = .ok (.iadd, 1) := by decide +kernel
theorem dX0_formOfMostWinners_92 : decode cX0_formOfMostWinners 92 = .ok (.istore 8, 2) := by decide +kernel
theorem dX0_formOfMostWinners_94 : decode cX0_formOfMostWinners 94 = .ok (.iinc 9 1, 3) := by decide +kernel
theorem dX0_formOfMostWinners_97 : decode cX0_formOfMostWinners 97 = .ok (.goto (-71), 3) := by decide +kernel
theorem dX0_formOfMostWinners_100 : decode cX0_formOfMostWinners 100 = .ok (.iload 7, 2) := by decide +kernel
theorem dX0_formOfMostWinners_102 : decode cX0_formOfMostWinners 102 = .ok (.invokestatic 113, 3) := by decide +kernel
theorem dX0_formOfMostWinners_105 : decode cX0_formOfMostWinners 105 = .ok (.istore 9, 2) := by decide +kernel
theorem dX0_formOfMostWinners_107 : decode cX0_formOfMostWinners 107 = .ok (.iload 9, 2) := by decide +kernel
theorem dX0_formOfMostWinners_109 : decode cX0_formOfMostWinners 109 = .ok (.iload 4, 2) := by decide +kernel
theorem dX0_formOfMostWinners_111 : decode cX0_formOfMostWinners 111 = .ok (.if_icmp .gt 17, 3) := by decide +kernel
theorem dX0_formOfMostWinners_114 : decode cX0_formOfMostWinners 114 = .ok (.iload 9, 2) := by decide +kernel
theorem dX0_formOfMostWinners_116 : decode cX0_formOfMostWinners 116 = .ok (.iload 4, 2) := by decide +kernel
theorem dX0_formOfMostWinners_118 : decode cX0_formOfMostWinners 118 = .ok (.if_icmp .ne 21, 3) := by decide +kernel
theorem dX0_formOfMostWinners_121 : decode cX0_formOfMostWinners 121 = .ok (.iload 8, 2) := by decide +kernel
theorem dX0_formOfMostWinners_123 : decode cX0_formOfMostWinners 123 = .ok (.iload 5, 2) := by decide +kernel
theorem dX0_formOfMostWinners_125 : decode cX0_formOfMostWinners 125 = .ok (.if_icmp .ge 14, 3) := by decide +kernel
theorem dX0_formOfMostWinners_128 : decode cX0_formOfMostWinners 128 = .ok (.iload 6, 2) := by decide +kernel
theorem dX0_formOfMostWinners_130 : decode cX0_formOfMostWinners 130 = .ok (.istore_n 3, 1) := by decide +kernel
theorem dX0_formOfMostWinners_131 : decode cX0_formOfMostWinners 131 = .ok (.iload 9, 2) := by decide +kernel
theorem dX0_formOfMostWinners_133 : decode cX0_formOfMostWinners 133 = .ok (.istore 4, 2) := by decide +kernel
theorem dX0_formOfMostWinners_135 : decode cX0_formOfMostWinners 135 = .ok (.iload 8, 2) := by decide +kernel
theorem dX0_formOfMostWinners_137 : decode cX0_formOfMostWinners 137 = .ok (.istore 5, 2) := by decide +kernel
theorem dX0_formOfMostWinners_139 : decode cX0_formOfMostWinners 139 = .ok (.iinc 6 1, 3) := by decide +kernel
theorem dX0_formOfMostWinners_142 : decode cX0_formOfMostWinners 142 = .ok (.goto (-131), 3) := by decide +kernel
theorem dX0_formOfMostWinners_145 : decode cX0_formOfMostWinners 145 = .ok (.iload_n 3, 1) := by decide +kernel
theorem dX0_formOfMostWinners_146 : decode cX0_formOfMostWinners 146 = .ok (.ireturn, 1) := by decide +kernel
theorem dX0_kindOfFewestTenths_0 : decode cX0_kindOfFewestTenths 0 = .ok (.iconst 0, 1) := by decide +kernel
theorem dX0_kindOfFewestTenths_1 : decode cX0_kindOfFewestTenths 1 = .ok (.istore_n 1, 1) := by decide +kernel
theorem dX0_kindOfFewestTenths_2 : decode cX0_kindOfFewestTenths 2 = .ok (.ldc 118, 2) := by decide +kernel
theorem dX0_kindOfFewestTenths_4 : decode cX0_kindOfFewestTenths 4 = .ok (.istore_n 2, 1) := by decide +kernel
theorem dX0_kindOfFewestTenths_5 : decode cX0_kindOfFewestTenths 5 = .ok (.iconst 0, 1) := by decide +kernel
theorem dX0_kindOfFewestTenths_6 : decode cX0_kindOfFewestTenths 6 = .ok (.istore_n 3, 1) := by decide +kernel
theorem dX0_kindOfFewestTenths_7 : decode cX0_kindOfFewestTenths 7 = .ok (.iload_n 3, 1) := by decide +kernel
theorem dX0_kindOfFewestTenths_8 : decode cX0_kindOfFewestTenths 8 = .ok (.iconst 5, 1) := by decide +kernel
theorem dX0_kindOfFewestTenths_9 : decode cX0_kindOfFewestTenths 9 = .ok (.if_icmp .ge 50, 3) := by decide +kernel
theorem dX0_kindOfFewestTenths_12 : decode cX0_kindOfFewestTenths 12 = .ok (.aload_n 0, 1) := by decide +kernel
theorem dX0_kindOfFewestTenths_13 : decode cX0_kindOfFewestTenths 13 = .ok (.getfield 18, 3) := by decide +kernel
theorem dX0_kindOfFewestTenths_16 : decode cX0_kindOfFewestTenths 16 = .ok (.aload_n 0, 1) := by decide +kernel
theorem dX0_kindOfFewestTenths_17 : decode cX0_kindOfFewestTenths 17 = .ok (.getfield 12, 3) := by decide +kernel
theorem dX0_kindOfFewestTenths_20 : decode cX0_kindOfFewestTenths 20 = .ok (.invokevirtual 38, 3) := by decide +kernel
theorem dX0_kindOfFewestTenths_23 : decode cX0_kindOfFewestTenths 23 = .ok (.aload_n 0, 1) := by decide +kernel
theorem dX0_kindOfFewestTenths_24 : decode cX0_kindOfFewestTenths 24 = .ok (.getfield 18, 3) := by decide +kernel
theorem dX0_kindOfFewestTenths_27 : decode cX0_kindOfFewestTenths 27 = .ok (.getfield 97, 3) := by decide +kernel
theorem dX0_kindOfFewestTenths_30 : decode cX0_kindOfFewestTenths 30 = .ok (.iload_n 3, 1) := by decide +kernel
theorem dX0_kindOfFewestTenths_31 : decode cX0_kindOfFewestTenths 31 = .ok (.putfield 119, 3) := by decide +kernel
theorem dX0_kindOfFewestTenths_34 : decode cX0_kindOfFewestTenths 34 = .ok (.aload_n 0, 1) := by decide +kernel
theorem dX0_kindOfFewestTenths_35 : decode cX0_kindOfFewestTenths 35 = .ok (.invokevirtual 91, 3) := by decide +kernel
theorem dX0_kindOfFewestTenths_38 : decode cX0_kindOfFewestTenths 38 = .ok (.aload_n 0, 1) := by decide +kernel
theorem dX0_kindOfFewestTenths_39 : decode cX0_kindOfFewestTenths 39 = .ok (.getfield 25, 3) := by decide +kernel
theorem dX0_kindOfFewestTenths_42 : decode cX0_kindOfFewestTenths 42 = .ok (.iload_n 2, 1) := by decide +kernel
theorem dX0_kindOfFewestTenths_43 : decode cX0_kindOfFewestTenths 43 = .ok (.if_icmp .ge 10, 3) := by decide +kernel
theorem dX0_kindOfFewestTenths_46 : decode cX0_kindOfFewestTenths 46 = .ok (.aload_n 0, 1) := by decide +kernel
theorem dX0_kindOfFewestTenths_47 : decode cX0_kindOfFewestTenths 47 = .ok (.getfield 25, 3) := by decide +kernel
theorem dX0_kindOfFewestTenths_50 : decode cX0_kindOfFewestTenths 50 = .ok (.istore_n 2, 1) := by decide +kernel
theorem dX0_kindOfFewestTenths_51 : decode cX0_kindOfFewestTenths 51 = .ok (.iload_n 3, 1) := by decide +kernel
theorem dX0_kindOfFewestTenths_52 : decode cX0_kindOfFewestTenths 52 = .ok (.istore_n 1, 1) := by decide +kernel
theorem dX0_kindOfFewestTenths_53 : decode cX0_kindOfFewestTenths 53 = .ok (.iinc 3 1, 3) := by decide +kernel
theorem dX0_kindOfFewestTenths_56 : decode cX0_kindOfFewestTenths 56 = .ok (.goto (-49), 3) := by decide +kernel
theorem dX0_kindOfFewestTenths_59 : decode cX0_kindOfFewestTenths 59 = .ok (.iload_n 1, 1) := by decide +kernel
theorem dX0_kindOfFewestTenths_60 : decode cX0_kindOfFewestTenths 60 = .ok (.ireturn, 1) := by decide +kernel
theorem dX0_teamGain_0 : decode cX0_teamGain 0 = .ok (.aload_n 0, 1) := by decide +kernel
theorem dX0_teamGain_1 : decode cX0_teamGain 1 = .ok (.getfield 18, 3) := by decide +kernel
theorem dX0_teamGain_4 : decode cX0_teamGain 4 = .ok (.aload_n 0, 1) := by decide +kernel
theorem dX0_teamGain_5 : decode cX0_teamGain 5 = .ok (.getfield 12, 3) := by decide +kernel
theorem dX0_teamGain_8 : decode cX0_teamGain 8 = .ok (.invokevirtual 38, 3) := by decide +kernel
theorem dX0_teamGain_11 : decode cX0_teamGain 11 = .ok (.iconst 0, 1) := by decide +kernel
theorem dX0_teamGain_12 : decode cX0_teamGain 12 = .ok (.istore 4, 2) := by decide +kernel
theorem dX0_teamGain_14 : decode cX0_teamGain 14 = .ok (.iconst 0, 1) := by decide +kernel
theorem dX0_teamGain_15 : decode cX0_teamGain 15 = .ok (.istore 5, 2) := by decide +kernel
theorem dX0_teamGain_17 : decode cX0_teamGain 17 = .ok (.iconst 0, 1) := by decide +kernel
theorem dX0_teamGain_18 : decode cX0_teamGain 18 = .ok (.istore 6, 2) := by decide +kernel
theorem dX0_teamGain_20 : decode cX0_teamGain 20 = .ok (.iconst 0, 1) := by decide +kernel
theorem dX0_teamGain_21 : decode cX0_teamGain 21 = .ok (.istore 7, 2) := by decide +kernel
theorem dX0_teamGain_23 : decode cX0_teamGain 23 = .ok (.iload 7, 2) := by decide +kernel
theorem dX0_teamGain_25 : decode cX0_teamGain 25 = .ok (.iload_n 3, 1) := by decide +kernel
theorem dX0_teamGain_26 : decode cX0_teamGain 26 = .ok (.if_icmp .ge 89, 3) := by decide +kernel
theorem dX0_teamGain_29 : decode cX0_teamGain 29 = .ok (.aload_n 0, 1) := by decide +kernel
theorem dX0_teamGain_30 : decode cX0_teamGain 30 = .ok (.invokevirtual 62, 3) := by decide +kernel
theorem dX0_teamGain_33 : decode cX0_teamGain 33 = .ok (.aload_n 0, 1) := by decide +kernel
theorem dX0_teamGain_34 : decode cX0_teamGain 34 = .ok (.getfield 18, 3) := by decide +kernel
theorem dX0_teamGain_37 : decode cX0_teamGain 37 = .ok (.getfield 65, 3) := by decide +kernel
theorem dX0_teamGain_40 : decode cX0_teamGain 40 = .ok (.iload_n 1, 1) := by decide +kernel
theorem dX0_teamGain_41 : decode cX0_teamGain 41 = .ok (.invokevirtual 69, 3) := by decide +kernel
theorem dX0_teamGain_44 : decode cX0_teamGain 44 = .ok (.istore 8, 2) := by decide +kernel
theorem dX0_teamGain_46 : decode cX0_teamGain 46 = .ok (.aload_n 0, 1) := by decide +kernel
theorem dX0_teamGain_47 : decode cX0_teamGain 47 = .ok (.getfield 18, 3) := by decide +kernel
theorem dX0_teamGain_50 : decode cX0_teamGain 50 = .ok (.getfield 65, 3) := by decide +kernel
theorem dX0_teamGain_53 : decode cX0_teamGain 53 = .ok (.iload_n 2, 1) := by decide +kernel
theorem dX0_teamGain_54 : decode cX0_teamGain 54 = .ok (.invokevirtual 69, 3) := by decide +kernel
theorem dX0_teamGain_57 : decode cX0_teamGain 57 = .ok (.istore 9, 2) := by decide +kernel
theorem dX0_teamGain_59 : decode cX0_teamGain 59 = .ok (.iload 4, 2) := by decide +kernel
theorem dX0_teamGain_61 : decode cX0_teamGain 61 = .ok (.iload 8, 2) := by decide +kernel
theorem dX0_teamGain_63 : decode cX0_teamGain 63 = .ok (.ifCond .eq 7, 3) := by decide +kernel
theorem dX0_teamGain_66 : decode cX0_teamGain 66 = .ok (.iconst 1, 1) := by decide +kernel
theorem dX0_teamGain_67 : decode cX0_teamGain 67 = .ok (.goto 4, 3) := by decide +kernel
theorem dX0_teamGain_70 : decode cX0_teamGain 70 = .ok (.iconst 0, 1) := by decide +kernel
theorem dX0_teamGain_71 : decode cX0_teamGain 71 = .ok (.iadd, 1) := by decide +kernel
theorem dX0_teamGain_72 : decode cX0_teamGain 72 = .ok (.istore 4, 2) := by decide +kernel
theorem dX0_teamGain_74 : decode cX0_teamGain 74 = .ok (.iload 5, 2) := by decide +kernel
theorem dX0_teamGain_76 : decode cX0_teamGain 76 = .ok (.iload 9, 2) := by decide +kernel
theorem dX0_teamGain_78 : decode cX0_teamGain 78 = .ok (.ifCond .eq 7, 3) := by decide +kernel
theorem dX0_teamGain_81 : decode cX0_teamGain 81 = .ok (.iconst 1, 1) := by decide +kernel
theorem dX0_teamGain_82 : decode cX0_teamGain 82 = .ok (.goto 4, 3) := by decide +kernel
theorem dX0_teamGain_85 : decode cX0_teamGain 85 = .ok (.iconst 0, 1) := by decide +kernel
theorem dX0_teamGain_86 : decode cX0_teamGain 86 = .ok (.iadd, 1) := by decide +kernel
theorem dX0_teamGain_87 : decode cX0_teamGain 87 = .ok (.istore 5, 2) := by decide +kernel
theorem dX0_teamGain_89 : decode cX0_teamGain 89 = .ok (.iload 6, 2) := by decide +kernel
theorem dX0_teamGain_91 : decode cX0_teamGain 91 = .ok (.iload 8, 2) := by decide +kernel
theorem dX0_teamGain_93 : decode cX0_teamGain 93 = .ok (.ifCond .ne 8, 3) := by decide +kernel
theorem dX0_teamGain_96 : decode cX0_teamGain 96 = .ok (.iload 9, 2) := by decide +kernel
theorem dX0_teamGain_98 : decode cX0_teamGain 98 = .ok (.ifCond .eq 7, 3) := by decide +kernel
theorem dX0_teamGain_101 : decode cX0_teamGain 101 = .ok (.iconst 1, 1) := by decide +kernel
theorem dX0_teamGain_102 : decode cX0_teamGain 102 = .ok (.goto 4, 3) := by decide +kernel
theorem dX0_teamGain_105 : decode cX0_teamGain 105 = .ok (.iconst 0, 1) := by decide +kernel
theorem dX0_teamGain_106 : decode cX0_teamGain 106 = .ok (.iadd, 1) := by decide +kernel
theorem dX0_teamGain_107 : decode cX0_teamGain 107 = .ok (.istore 6, 2) := by decide +kernel
theorem dX0_teamGain_109 : decode cX0_teamGain 109 = .ok (.iinc 7 1, 3) := by decide +kernel
theorem dX0_teamGain_112 : decode cX0_teamGain 112 = .ok (.goto (-89), 3) := by decide +kernel
theorem dX0_teamGain_115 : decode cX0_teamGain 115 = .ok (.iload 6, 2) := by decide +kernel
theorem dX0_teamGain_117 : decode cX0_teamGain 117 = .ok (.iload 4, 2) := by decide +kernel
theorem dX0_teamGain_119 : decode cX0_teamGain 119 = .ok (.iload 5, 2) := by decide +kernel
theorem dX0_teamGain_121 : decode cX0_teamGain 121 = .ok (.invokestatic 78, 3) := by decide +kernel
theorem dX0_teamGain_124 : decode cX0_teamGain 124 = .ok (.isub, 1) := by decide +kernel
theorem dX0_teamGain_125 : decode cX0_teamGain 125 = .ok (.ireturn, 1) := by decide +kernel
theorem dX0_sitsWhenHeld_0 : decode cX0_sitsWhenHeld 0 = .ok (.aload_n 0, 1) := by decide +kernel
theorem dX0_sitsWhenHeld_1 : decode cX0_sitsWhenHeld 1 = .ok (.getfield 18, 3) := by decide +kernel
theorem dX0_sitsWhenHeld_4 : decode cX0_sitsWhenHeld 4 = .ok (.aload_n 0, 1) := by decide +kernel
theorem dX0_sitsWhenHeld_5 : decode cX0_sitsWhenHeld 5 = .ok (.getfield 12, 3) := by decide +kernel
theorem dX0_sitsWhenHeld_8 : decode cX0_sitsWhenHeld 8 = .ok (.invokevirtual 38, 3) := by decide +kernel
theorem dX0_sitsWhenHeld_11 : decode cX0_sitsWhenHeld 11 = .ok (.aload_n 0, 1) := by decide +kernel
theorem dX0_sitsWhenHeld_12 : decode cX0_sitsWhenHeld 12 = .ok (.getfield 18, 3) := by decide +kernel
theorem dX0_sitsWhenHeld_15 : decode cX0_sitsWhenHeld 15 = .ok (.iload_n 2, 1) := by decide +kernel
theorem dX0_sitsWhenHeld_16 : decode cX0_sitsWhenHeld 16 = .ok (.invokevirtual 49, 3) := by decide +kernel
theorem dX0_sitsWhenHeld_19 : decode cX0_sitsWhenHeld 19 = .ok (.ifCond .ne 5, 3) := by decide +kernel
theorem dX0_sitsWhenHeld_22 : decode cX0_sitsWhenHeld 22 = .ok (.iconst 0, 1) := by decide +kernel
theorem dX0_sitsWhenHeld_23 : decode cX0_sitsWhenHeld 23 = .ok (.ireturn, 1) := by decide +kernel
theorem dX0_sitsWhenHeld_24 : decode cX0_sitsWhenHeld 24 = .ok (.aload_n 0, 1) := by decide +kernel
theorem dX0_sitsWhenHeld_25 : decode cX0_sitsWhenHeld 25 = .ok (.getfield 18, 3) := by decide +kernel
theorem dX0_sitsWhenHeld_28 : decode cX0_sitsWhenHeld 28 = .ok (.getfield 53, 3) := by decide +kernel
theorem dX0_sitsWhenHeld_31 : decode cX0_sitsWhenHeld 31 = .ok (.iload_n 2, 1) := by decide +kernel
theorem dX0_sitsWhenHeld_32 : decode cX0_sitsWhenHeld 32 = .ok (.aaload, 1) := by decide +kernel
theorem dX0_sitsWhenHeld_33 : decode cX0_sitsWhenHeld 33 = .ok (.astore 4, 2) := by decide +kernel
theorem dX0_sitsWhenHeld_35 : decode cX0_sitsWhenHeld 35 = .ok (.iconst 0, 1) := by decide +kernel
theorem dX0_sitsWhenHeld_36 : decode cX0_sitsWhenHeld 36 = .ok (.istore 5, 2) := by decide +kernel
theorem dX0_sitsWhenHeld_38 : decode cX0_sitsWhenHeld 38 = .ok (.iconst 0, 1) := by decide +kernel
theorem dX0_sitsWhenHeld_39 : decode cX0_sitsWhenHeld 39 = .ok (.istore 6, 2) := by decide +kernel
theorem dX0_sitsWhenHeld_41 : decode cX0_sitsWhenHeld 41 = .ok (.iload 6, 2) := by decide +kernel
theorem dX0_sitsWhenHeld_43 : decode cX0_sitsWhenHeld 43 = .ok (.iload_n 3, 1) := by decide +kernel
theorem dX0_sitsWhenHeld_44 : decode cX0_sitsWhenHeld 44 = .ok (.if_icmp .ge 92, 3) := by decide +kernel
theorem dX0_sitsWhenHeld_47 : decode cX0_sitsWhenHeld 47 = .ok (.aload_n 0, 1) := by decide +kernel
theorem dX0_sitsWhenHeld_48 : decode cX0_sitsWhenHeld 48 = .ok (.invokevirtual 62, 3) := by decide +kernel
theorem dX0_sitsWhenHeld_51 : decode cX0_sitsWhenHeld 51 = .ok (.aload_n 0, 1) := by decide +kernel
theorem dX0_sitsWhenHeld_52 : decode cX0_sitsWhenHeld 52 = .ok (.getfield 18, 3) := by decide +kernel
theorem dX0_sitsWhenHeld_55 : decode cX0_sitsWhenHeld 55 = .ok (.getfield 65, 3) := by decide +kernel
theorem dX0_sitsWhenHeld_58 : decode cX0_sitsWhenHeld 58 = .ok (.iload_n 1, 1) := by decide +kernel
theorem dX0_sitsWhenHeld_59 : decode cX0_sitsWhenHeld 59 = .ok (.aload_n 0, 1) := by decide +kernel
theorem dX0_sitsWhenHeld_60 : decode cX0_sitsWhenHeld 60 = .ok (.getfield 18, 3) := by decide +kernel
theorem dX0_sitsWhenHeld_63 : decode cX0_sitsWhenHeld 63 = .ok (.getfield 122, 3) := by decide +kernel
theorem dX0_sitsWhenHeld_66 : decode cX0_sitsWhenHeld 66 = .ok (.invokevirtual 126, 3) := by decide +kernel
theorem dX0_sitsWhenHeld_69 : decode cX0_sitsWhenHeld 69 = .ok (.istore 7, 2) := by decide +kernel
theorem dX0_sitsWhenHeld_71 : decode cX0_sitsWhenHeld 71 = .ok (.iload 7, 2) := by decide +kernel
theorem dX0_sitsWhenHeld_73 : decode cX0_sitsWhenHeld 73 = .ok (.ifCond .lt 32, 3) := by decide +kernel
theorem dX0_sitsWhenHeld_76 : decode cX0_sitsWhenHeld 76 = .ok (.aload_n 0, 1) := by decide +kernel
theorem dX0_sitsWhenHeld_77 : decode cX0_sitsWhenHeld 77 = .ok (.getfield 18, 3) := by decide +kernel
theorem dX0_sitsWhenHeld_80 : decode cX0_sitsWhenHeld 80 = .ok (.getfield 122, 3) := by decide +kernel
theorem dX0_sitsWhenHeld_83 : decode cX0_sitsWhenHeld 83 = .ok (.aload 4, 2) := by decide +kernel
theorem dX0_sitsWhenHeld_85 : decode cX0_sitsWhenHeld 85 = .ok (.getfield 130, 3) := by decide +kernel
theorem dX0_sitsWhenHeld_88 : decode cX0_sitsWhenHeld 88 = .ok (.iload 7, 2) := by decide +kernel
theorem dX0_sitsWhenHeld_90 : decode cX0_sitsWhenHeld 90 = .ok (.invokevirtual 133, 3) := by decide +kernel
theorem dX0_sitsWhenHeld_93 : decode cX0_sitsWhenHeld 93 = .ok (.aload 4, 2) := by decide +kernel
theorem dX0_sitsWhenHeld_95 : decode cX0_sitsWhenHeld 95 = .ok (.getfield 138, 3) := by decide +kernel
theorem dX0_sitsWhenHeld_98 : decode cX0_sitsWhenHeld 98 = .ok (.if_icmp .gt 7, 3) := by decide +kernel
theorem dX0_sitsWhenHeld_101 : decode cX0_sitsWhenHeld 101 = .ok (.iconst 1, 1) := by decide +kernel
theorem dX0_sitsWhenHeld_102 : decode cX0_sitsWhenHeld 102 = .ok (.goto 4, 3) := by decide +kernel
theorem dX0_sitsWhenHeld_105 : decode cX0_sitsWhenHeld 105 = .ok (.iconst 0, 1) := by decide +kernel
theorem dX0_sitsWhenHeld_106 : decode cX0_sitsWhenHeld 106 = .ok (.istore 8, 2) := by decide +kernel
theorem dX0_sitsWhenHeld_108 : decode cX0_sitsWhenHeld 108 = .ok (.iload 8, 2) := by decide +kernel
theorem dX0_sitsWhenHeld_110 : decode cX0_sitsWhenHeld 110 = .ok (.ifCond .ne 17, 3) := by decide +kernel
theorem dX0_sitsWhenHeld_113 : decode cX0_sitsWhenHeld 113 = .ok (.aload_n 0, 1) := by decide +kernel
theorem dX0_sitsWhenHeld_114 : decode cX0_sitsWhenHeld 114 = .ok (.getfield 18, 3) := by decide +kernel
theorem dX0_sitsWhenHeld_117 : decode cX0_sitsWhenHeld 117 = .ok (.getfield 65, 3) := by decide +kernel
theorem dX0_sitsWhenHeld_120 : decode cX0_sitsWhenHeld 120 = .ok (.iload_n 2, 1) := by decide +kernel
theorem dX0_sitsWhenHeld_121 : decode cX0_sitsWhenHeld 121 = .ok (.invokevirtual 69, 3) := by decide +kernel
theorem dX0_sitsWhenHeld_124 : decode cX0_sitsWhenHeld 124 = .ok (.ifCond .eq 6, 3) := by decide +kernel
theorem dX0_sitsWhenHeld_127 : decode cX0_sitsWhenHeld 127 = .ok (.iinc 5 1, 3) := by decide +kernel
theorem dX0_sitsWhenHeld_130 : decode cX0_sitsWhenHeld 130 = .ok (.iinc 6 1, 3) := by decide +kernel
theorem dX0_sitsWhenHeld_133 : decode cX0_sitsWhenHeld 133 = .ok (.goto (-92), 3) := by decide +kernel
theorem dX0_sitsWhenHeld_136 : decode cX0_sitsWhenHeld 136 = .ok (.iload 5, 2) := by decide +kernel
theorem dX0_sitsWhenHeld_138 : decode cX0_sitsWhenHeld 138 = .ok (.ireturn, 1) := by decide +kernel
theorem dX0_firstWrong_0 : decode cX0_firstWrong 0 = .ok (.aload_n 0, 1) := by decide +kernel
theorem dX0_firstWrong_1 : decode cX0_firstWrong 1 = .ok (.getfield 18, 3) := by decide +kernel
theorem dX0_firstWrong_4 : decode cX0_firstWrong 4 = .ok (.aload_n 0, 1) := by decide +kernel
theorem dX0_firstWrong_5 : decode cX0_firstWrong 5 = .ok (.getfield 12, 3) := by decide +kernel
theorem dX0_firstWrong_8 : decode cX0_firstWrong 8 = .ok (.invokevirtual 38, 3) := by decide +kernel
theorem dX0_firstWrong_11 : decode cX0_firstWrong 11 = .ok (.aload_n 0, 1) := by decide +kernel
theorem dX0_firstWrong_12 : decode cX0_firstWrong 12 = .ok (.getfield 18, 3) := by decide +kernel
theorem dX0_firstWrong_15 : decode cX0_firstWrong 15 = .ok (.iload_n 1, 1) := by decide +kernel
theorem dX0_firstWrong_16 : decode cX0_firstWrong 16 = .ok (.invokevirtual 49, 3) := by decide +kernel
theorem dX0_firstWrong_19 : decode cX0_firstWrong 19 = .ok (.ifCond .ne 6, 3) := by decide +kernel
theorem dX0_firstWrong_22 : decode cX0_firstWrong 22 = .ok (.bipush (-9), 2) := by decide +kernel
theorem dX0_firstWrong_24 : decode cX0_firstWrong 24 = .ok (.ireturn, 1) := by decide +kernel
theorem dX0_firstWrong_25 : decode cX0_firstWrong 25 = .ok (.iconst 0, 1) := by decide +kernel
theorem dX0_firstWrong_26 : decode cX0_firstWrong 26 = .ok (.istore_n 3, 1) := by decide +kernel
theorem dX0_firstWrong_27 : decode cX0_firstWrong 27 = .ok (.iload_n 3, 1) := by decide +kernel
theorem dX0_firstWrong_28 : decode cX0_firstWrong 28 = .ok (.aload_n 2, 1) := by decide +kernel
theorem dX0_firstWrong_29 : decode cX0_firstWrong 29 = .ok (.getfield 141, 3) := by decide +kernel
theorem dX0_firstWrong_32 : decode cX0_firstWrong 32 = .ok (.if_icmp .ge 38, 3) := by decide +kernel
theorem dX0_firstWrong_35 : decode cX0_firstWrong 35 = .ok (.aload_n 0, 1) := by decide +kernel
theorem dX0_firstWrong_36 : decode cX0_firstWrong 36 = .ok (.getfield 18, 3) := by decide +kernel
theorem dX0_firstWrong_39 : decode cX0_firstWrong 39 = .ok (.invokevirtual 146, 3) := by decide +kernel
theorem dX0_firstWrong_42 : decode cX0_firstWrong 42 = .ok (.aload_n 0, 1) := by decide +kernel
theorem dX0_firstWrong_43 : decode cX0_firstWrong 43 = .ok (.getfield 18, 3) := by decide +kernel
theorem dX0_firstWrong_46 : decode cX0_firstWrong 46 = .ok (.getfield 53, 3) := by decide +kernel
theorem dX0_firstWrong_49 : decode cX0_firstWrong 49 = .ok (.iload_n 1, 1) := by decide +kernel
theorem dX0_firstWrong_50 : decode cX0_firstWrong 50 = .ok (.aaload, 1) := by decide +kernel
theorem dX0_firstWrong_51 : decode cX0_firstWrong 51 = .ok (.getfield 130, 3) := by decide +kernel
theorem dX0_firstWrong_54 : decode cX0_firstWrong 54 = .ok (.aload_n 2, 1) := by decide +kernel
theorem dX0_firstWrong_55 : decode cX0_firstWrong 55 = .ok (.iload_n 3, 1) := by decide +kernel
theorem dX0_firstWrong_56 : decode cX0_firstWrong 56 = .ok (.invokevirtual 149, 3) := by decide +kernel
theorem dX0_firstWrong_59 : decode cX0_firstWrong 59 = .ok (.if_icmp .eq 5, 3) := by decide +kernel
theorem dX0_firstWrong_62 : decode cX0_firstWrong 62 = .ok (.iload_n 3, 1) := by decide +kernel
theorem dX0_firstWrong_63 : decode cX0_firstWrong 63 = .ok (.ireturn, 1) := by decide +kernel
theorem dX0_firstWrong_64 : decode cX0_firstWrong 64 = .ok (.iinc 3 1, 3) := by decide +kernel
theorem dX0_firstWrong_67 : decode cX0_firstWrong 67 = .ok (.goto (-40), 3) := by decide +kernel
theorem dX0_firstWrong_70 : decode cX0_firstWrong 70 = .ok (.bipush (-9), 2) := by decide +kernel
theorem dX0_firstWrong_72 : decode cX0_firstWrong 72 = .ok (.ireturn, 1) := by decide +kernel
theorem dX0_seatBehindTenth_0 : decode cX0_seatBehindTenth 0 = .ok (.aload_n 0, 1) := by decide +kernel
theorem dX0_seatBehindTenth_1 : decode cX0_seatBehindTenth 1 = .ok (.getfield 18, 3) := by decide +kernel
theorem dX0_seatBehindTenth_4 : decode cX0_seatBehindTenth 4 = .ok (.invokevirtual 146, 3) := by decide +kernel
theorem dX0_seatBehindTenth_7 : decode cX0_seatBehindTenth 7 = .ok (.aload_n 0, 1) := by decide +kernel
theorem dX0_seatBehindTenth_8 : decode cX0_seatBehindTenth 8 = .ok (.getfield 18, 3) := by decide +kernel
theorem dX0_seatBehindTenth_11 : decode cX0_seatBehindTenth 11 = .ok (.getfield 65, 3) := by decide +kernel
theorem dX0_seatBehindTenth_14 : decode cX0_seatBehindTenth 14 = .ok (.aload_n 0, 1) := by decide +kernel
theorem dX0_seatBehindTenth_15 : decode cX0_seatBehindTenth 15 = .ok (.getfield 18, 3) := by decide +kernel
theorem dX0_seatBehindTenth_18 : decode cX0_seatBehindTenth 18 = .ok (.invokevirtual 152, 3) := by decide +kernel
theorem dX0_seatBehindTenth_21 : decode cX0_seatBehindTenth 21 = .ok (.return_, 1) := by decide +kernel
theorem dX0_countSeatedTimes_0 : decode cX0_countSeatedTimes 0 = .ok (.aload_n 0, 1) := by decide +kernel
theorem dX0_countSeatedTimes_1 : decode cX0_countSeatedTimes 1 = .ok (.getfield 18, 3) := by decide +kernel
theorem dX0_countSeatedTimes_4 : decode cX0_countSeatedTimes 4 = .ok (.aload_n 0, 1) := by decide +kernel
theorem dX0_countSeatedTimes_5 : decode cX0_countSeatedTimes 5 = .ok (.getfield 12, 3) := by decide +kernel
theorem dX0_countSeatedTimes_8 : decode cX0_countSeatedTimes 8 = .ok (.invokevirtual 38, 3) := by decide +kernel
theorem dX0_countSeatedTimes_11 : decode cX0_countSeatedTimes 11 = .ok (.iconst 0, 1) := by decide +kernel
theorem dX0_countSeatedTimes_12 : decode cX0_countSeatedTimes 12 = .ok (.istore_n 2, 1) := by decide +kernel
theorem dX0_countSeatedTimes_13 : decode cX0_countSeatedTimes 13 = .ok (.iload_n 2, 1) := by decide +kernel
theorem dX0_countSeatedTimes_14 : decode cX0_countSeatedTimes 14 = .ok (.bipush 12, 2) := by decide +kernel
theorem dX0_countSeatedTimes_16 : decode cX0_countSeatedTimes 16 = .ok (.if_icmp .ge 16, 3) := by decide +kernel
theorem dX0_countSeatedTimes_19 : decode cX0_countSeatedTimes 19 = .ok (.aload_n 0, 1) := by decide +kernel
theorem dX0_countSeatedTimes_20 : decode cX0_countSeatedTimes 20 = .ok (.getfield 21, 3) := by decide +kernel
theorem dX0_countSeatedTimes_23 : decode cX0_countSeatedTimes 23 = .ok (.iload_n 2, 1) := by decide +kernel
theorem dX0_countSeatedTimes_24 : decode cX0_countSeatedTimes 24 = .ok (.iconst 0, 1) := by decide +kernel
theorem dX0_countSeatedTimes_25 : decode cX0_countSeatedTimes 25 = .ok (.iastore, 1) := by decide +kernel
theorem dX0_countSeatedTimes_26 : decode cX0_countSeatedTimes 26 = .ok (.iinc 2 1, 3) := by decide +kernel
theorem dX0_countSeatedTimes_29 : decode cX0_countSeatedTimes 29 = .ok (.goto (-16), 3) := by decide +kernel
theorem dX0_countSeatedTimes_32 : decode cX0_countSeatedTimes 32 = .ok (.iconst 0, 1) := by decide +kernel
theorem dX0_countSeatedTimes_33 : decode cX0_countSeatedTimes 33 = .ok (.istore_n 2, 1) := by decide +kernel
theorem dX0_countSeatedTimes_34 : decode cX0_countSeatedTimes 34 = .ok (.iload_n 2, 1) := by decide +kernel
theorem dX0_countSeatedTimes_35 : decode cX0_countSeatedTimes 35 = .ok (.iload_n 1, 1) := by decide +kernel
theorem dX0_countSeatedTimes_36 : decode cX0_countSeatedTimes 36 = .ok (.if_icmp .ge 55, 3) := by decide +kernel
theorem dX0_countSeatedTimes_39 : decode cX0_countSeatedTimes 39 = .ok (.aload_n 0, 1) := by decide +kernel
theorem dX0_countSeatedTimes_40 : decode cX0_countSeatedTimes 40 = .ok (.invokevirtual 62, 3) := by decide +kernel
theorem dX0_countSeatedTimes_43 : decode cX0_countSeatedTimes 43 = .ok (.iconst 0, 1) := by decide +kernel
theorem dX0_countSeatedTimes_44 : decode cX0_countSeatedTimes 44 = .ok (.istore_n 3, 1) := by decide +kernel
theorem dX0_countSeatedTimes_45 : decode cX0_countSeatedTimes 45 = .ok (.iload_n 3, 1) := by decide +kernel
theorem dX0_countSeatedTimes_46 : decode cX0_countSeatedTimes 46 = .ok (.bipush 12, 2) := by decide +kernel
theorem dX0_countSeatedTimes_48 : decode cX0_countSeatedTimes 48 = .ok (.if_icmp .ge 37, 3) := by decide +kernel
theorem dX0_countSeatedTimes_51 : decode cX0_countSeatedTimes 51 = .ok (.aload_n 0, 1) := by decide +kernel
theorem dX0_countSeatedTimes_52 : decode cX0_countSeatedTimes 52 = .ok (.getfield 21, 3) := by decide +kernel
theorem dX0_countSeatedTimes_55 : decode cX0_countSeatedTimes 55 = .ok (.iload_n 3, 1) := by decide +kernel
theorem dX0_countSeatedTimes_56 : decode cX0_countSeatedTimes 56 = .ok (.dup2, 1) := by decide +kernel
theorem dX0_countSeatedTimes_57 : decode cX0_countSeatedTimes 57 = .ok (.iaload, 1) := by decide +kernel
theorem dX0_countSeatedTimes_58 : decode cX0_countSeatedTimes 58 = .ok (.aload_n 0, 1) := by decide +kernel
theorem dX0_countSeatedTimes_59 : decode cX0_countSeatedTimes 59 = .ok (.getfield 18, 3) := by decide +kernel
theorem dX0_countSeatedTimes_62 : decode cX0_countSeatedTimes 62 = .ok (.getfield 65, 3) := by decide +kernel
theorem dX0_countSeatedTimes_65 : decode cX0_countSeatedTimes 65 = .ok (.iload_n 3, 1) := by decide +kernel
theorem dX0_countSeatedTimes_66 : decode cX0_countSeatedTimes 66 = .ok (.invokevirtual 69, 3) := by decide +kernel
theorem dX0_countSeatedTimes_69 : decode cX0_countSeatedTimes 69 = .ok (.ifCond .eq 7, 3) := by decide +kernel
theorem dX0_countSeatedTimes_72 : decode cX0_countSeatedTimes 72 = .ok (.iconst 1, 1) := by decide +kernel
theorem dX0_countSeatedTimes_73 : decode cX0_countSeatedTimes 73 = .ok (.goto 4, 3) := by decide +kernel
theorem dX0_countSeatedTimes_76 : decode cX0_countSeatedTimes 76 = .ok (.iconst 0, 1) := by decide +kernel
theorem dX0_countSeatedTimes_77 : decode cX0_countSeatedTimes 77 = .ok (.iadd, 1) := by decide +kernel
theorem dX0_countSeatedTimes_78 : decode cX0_countSeatedTimes 78 = .ok (.iastore, 1) := by decide +kernel
theorem dX0_countSeatedTimes_79 : decode cX0_countSeatedTimes 79 = .ok (.iinc 3 1, 3) := by decide +kernel
theorem dX0_countSeatedTimes_82 : decode cX0_countSeatedTimes 82 = .ok (.goto (-37), 3) := by decide +kernel
theorem dX0_countSeatedTimes_85 : decode cX0_countSeatedTimes 85 = .ok (.iinc 2 1, 3) := by decide +kernel
theorem dX0_countSeatedTimes_88 : decode cX0_countSeatedTimes 88 = .ok (.goto (-54), 3) := by decide +kernel
theorem dX0_countSeatedTimes_91 : decode cX0_countSeatedTimes 91 = .ok (.return_, 1) := by decide +kernel
theorem dX0_playOut_0 : decode cX0_playOut 0 = .ok (.aload_n 0, 1) := by decide +kernel
theorem dX0_playOut_1 : decode cX0_playOut 1 = .ok (.iconst 0, 1) := by decide +kernel
theorem dX0_playOut_2 : decode cX0_playOut 2 = .ok (.putfield 25, 3) := by decide +kernel
theorem dX0_playOut_5 : decode cX0_playOut 5 = .ok (.aload_n 0, 1) := by decide +kernel
theorem dX0_playOut_6 : decode cX0_playOut 6 = .ok (.iconst 0, 1) := by decide +kernel
theorem dX0_playOut_7 : decode cX0_playOut 7 = .ok (.putfield 29, 3) := by decide +kernel
theorem dX0_playOut_10 : decode cX0_playOut 10 = .ok (.iconst 0, 1) := by decide +kernel
theorem dX0_playOut_11 : decode cX0_playOut 11 = .ok (.istore_n 1, 1) := by decide +kernel
theorem dX0_playOut_12 : decode cX0_playOut 12 = .ok (.iload_n 1, 1) := by decide +kernel
theorem dX0_playOut_13 : decode cX0_playOut 13 = .ok (.sipush 3900, 3) := by decide +kernel
theorem dX0_playOut_16 : decode cX0_playOut 16 = .ok (.if_icmp .ge 57, 3) := by decide +kernel
theorem dX0_playOut_19 : decode cX0_playOut 19 = .ok (.aload_n 0, 1) := by decide +kernel
theorem dX0_playOut_20 : decode cX0_playOut 20 = .ok (.getfield 18, 3) := by decide +kernel
theorem dX0_playOut_23 : decode cX0_playOut 23 = .ok (.getfield 155, 3) := by decide +kernel
theorem dX0_playOut_26 : decode cX0_playOut 26 = .ok (.ifCond .ne 47, 3) := by decide +kernel
theorem dX0_playOut_29 : decode cX0_playOut 29 = .ok (.aload_n 0, 1) := by decide +kernel
theorem dX0_playOut_30 : decode cX0_playOut 30 = .ok (.dup, 1) := by decide +kernel
theorem dX0_playOut_31 : decode cX0_playOut 31 = .ok (.getfield 25, 3) := by decide +kernel
theorem dX0_playOut_34 : decode cX0_playOut 34 = .ok (.iconst 1, 1) := by decide +kernel
theorem dX0_playOut_35 : decode cX0_playOut 35 = .ok (.iadd, 1) := by decide +kernel
theorem dX0_playOut_36 : decode cX0_playOut 36 = .ok (.putfield 25, 3) := by decide +kernel
theorem dX0_playOut_39 : decode cX0_playOut 39 = .ok (.aload_n 0, 1) := by decide +kernel
theorem dX0_playOut_40 : decode cX0_playOut 40 = .ok (.getfield 18, 3) := by decide +kernel
theorem dX0_playOut_43 : decode cX0_playOut 43 = .ok (.invokevirtual 159, 3) := by decide +kernel
theorem dX0_playOut_46 : decode cX0_playOut 46 = .ok (.ifCond .eq 21, 3) := by decide +kernel
theorem dX0_playOut_49 : decode cX0_playOut 49 = .ok (.aload_n 0, 1) := by decide +kernel
theorem dX0_playOut_50 : decode cX0_playOut 50 = .ok (.getfield 18, 3) := by decide +kernel
theorem dX0_playOut_53 : decode cX0_playOut 53 = .ok (.invokevirtual 163, 3) := by decide +kernel
theorem dX0_playOut_56 : decode cX0_playOut 56 = .ok (.pop, 1) := by decide +kernel
theorem dX0_playOut_57 : decode cX0_playOut 57 = .ok (.aload_n 0, 1) := by decide +kernel
theorem dX0_playOut_58 : decode cX0_playOut 58 = .ok (.dup, 1) := by decide +kernel
theorem dX0_playOut_59 : decode cX0_playOut 59 = .ok (.getfield 29, 3) := by decide +kernel
theorem dX0_playOut_62 : decode cX0_playOut 62 = .ok (.iconst 1, 1) := by decide +kernel
theorem dX0_playOut_63 : decode cX0_playOut 63 = .ok (.iadd, 1) := by decide +kernel
theorem dX0_playOut_64 : decode cX0_playOut 64 = .ok (.putfield 29, 3) := by decide +kernel
theorem dX0_playOut_67 : decode cX0_playOut 67 = .ok (.iinc 1 1, 3) := by decide +kernel
theorem dX0_playOut_70 : decode cX0_playOut 70 = .ok (.goto (-58), 3) := by decide +kernel
theorem dX0_playOut_73 : decode cX0_playOut 73 = .ok (.return_, 1) := by decide +kernel
theorem dX0_bitOf_0 : decode cX0_bitOf 0 = .ok (.iload_n 0, 1) := by decide +kernel
theorem dX0_bitOf_1 : decode cX0_bitOf 1 = .ok (.ifCond .lt 9, 3) := by decide +kernel
theorem dX0_bitOf_4 : decode cX0_bitOf 4 = .ok (.iconst 1, 1) := by decide +kernel
theorem dX0_bitOf_5 : decode cX0_bitOf 5 = .ok (.iload_n 0, 1) := by decide +kernel
theorem dX0_bitOf_6 : decode cX0_bitOf 6 = .ok (.ishl, 1) := by decide +kernel
theorem dX0_bitOf_7 : decode cX0_bitOf 7 = .ok (.goto 4, 3) := by decide +kernel
theorem dX0_bitOf_10 : decode cX0_bitOf 10 = .ok (.iconst 0, 1) := by decide +kernel
theorem dX0_bitOf_11 : decode cX0_bitOf 11 = .ok (.ireturn, 1) := by decide +kernel
theorem dX1_init_0 : decode cX1_init 0 = .ok (.aload_n 0, 1) := by decide +kernel
theorem dX1_init_1 : decode cX1_init 1 = .ok (.invokespecial 3, 3) := by decide +kernel
theorem dX1_init_4 : decode cX1_init 4 = .ok (.aload_n 0, 1) := by decide +kernel
theorem dX1_init_5 : decode cX1_init 5 = .ok (.iconst 0, 1) := by decide +kernel
theorem dX1_init_6 : decode cX1_init 6 = .ok (.putfield 9, 3) := by decide +kernel
theorem dX1_init_9 : decode cX1_init 9 = .ok (.aload_n 0, 1) := by decide +kernel
theorem dX1_init_10 : decode cX1_init 10 = .ok (.iload_n 1, 1) := by decide +kernel
theorem dX1_init_11 : decode cX1_init 11 = .ok (.ifCond .le 7, 3) := by decide +kernel
theorem dX1_init_14 : decode cX1_init 14 = .ok (.iload_n 1, 1) := by decide +kernel
theorem dX1_init_15 : decode cX1_init 15 = .ok (.goto 4, 3) := by decide +kernel
theorem dX1_init_18 : decode cX1_init 18 = .ok (.iconst 0, 1) := by decide +kernel
theorem dX1_init_19 : decode cX1_init 19 = .ok (.newarray .int, 2) := by decide +kernel
theorem dX1_init_21 : decode cX1_init 21 = .ok (.putfield 15, 3) := by decide +kernel
theorem dX1_init_24 : decode cX1_init 24 = .ok (.return_, 1) := by decide +kernel
theorem dX1_isFull_0 : decode cX1_isFull 0 = .ok (.aload_n 0, 1) := by decide +kernel
theorem dX1_isFull_1 : decode cX1_isFull 1 = .ok (.getfield 9, 3) := by decide +kernel
theorem dX1_isFull_4 : decode cX1_isFull 4 = .ok (.aload_n 0, 1) := by decide +kernel
theorem dX1_isFull_5 : decode cX1_isFull 5 = .ok (.getfield 15, 3) := by decide +kernel
theorem dX1_isFull_8 : decode cX1_isFull 8 = .ok (.arraylength, 1) := by decide +kernel
theorem dX1_isFull_9 : decode cX1_isFull 9 = .ok (.if_icmp .lt 7, 3) := by decide +kernel
theorem dX1_isFull_12 : decode cX1_isFull 12 = .ok (.iconst 1, 1) := by decide +kernel
theorem dX1_isFull_13 : decode cX1_isFull 13 = .ok (.goto 4, 3) := by decide +kernel
theorem dX1_isFull_16 : decode cX1_isFull 16 = .ok (.iconst 0, 1) := by decide +kernel
theorem dX1_isFull_17 : decode cX1_isFull 17 = .ok (.ireturn, 1) := by decide +kernel
theorem dX1_append_0 : decode cX1_append 0 = .ok (.aload_n 0, 1) := by decide +kernel
theorem dX1_append_1 : decode cX1_append 1 = .ok (.invokevirtual 19, 3) := by decide +kernel
theorem dX1_append_4 : decode cX1_append 4 = .ok (.ifCond .ne 23, 3) := by decide +kernel
theorem dX1_append_7 : decode cX1_append 7 = .ok (.aload_n 0, 1) := by decide +kernel
theorem dX1_append_8 : decode cX1_append 8 = .ok (.getfield 15, 3) := by decide +kernel
theorem dX1_append_11 : decode cX1_append 11 = .ok (.aload_n 0, 1) := by decide +kernel
theorem dX1_append_12 : decode cX1_append 12 = .ok (.getfield 9, 3) := by decide +kernel
theorem dX1_append_15 : decode cX1_append 15 = .ok (.iload_n 1, 1) := by decide +kernel
theorem dX1_append_16 : decode cX1_append 16 = .ok (.iastore, 1) := by decide +kernel
theorem dX1_append_17 : decode cX1_append 17 = .ok (.aload_n 0, 1) := by decide +kernel
theorem dX1_append_18 : decode cX1_append 18 = .ok (.dup, 1) := by decide +kernel
theorem dX1_append_19 : decode cX1_append 19 = .ok (.getfield 9, 3) := by decide +kernel
theorem dX1_append_22 : decode cX1_append 22 = .ok (.iconst 1, 1) := by decide +kernel
theorem dX1_append_23 : decode cX1_append 23 = .ok (.iadd, 1) := by decide +kernel
theorem dX1_append_24 : decode cX1_append 24 = .ok (.putfield 9, 3) := by decide +kernel
theorem dX1_append_27 : decode cX1_append 27 = .ok (.aload_n 0, 1) := by decide +kernel
theorem dX1_append_28 : decode cX1_append 28 = .ok (.getfield 9, 3) := by decide +kernel
theorem dX1_append_31 : decode cX1_append 31 = .ok (.ireturn, 1) := by decide +kernel
theorem dX1_at_0 : decode cX1_at 0 = .ok (.iload_n 1, 1) := by decide +kernel
theorem dX1_at_1 : decode cX1_at 1 = .ok (.ifCond .lt 20, 3) := by decide +kernel
theorem dX1_at_4 : decode cX1_at 4 = .ok (.iload_n 1, 1) := by decide +kernel
theorem dX1_at_5 : decode cX1_at 5 = .ok (.aload_n 0, 1) := by decide +kernel
theorem dX1_at_6 : decode cX1_at 6 = .ok (.getfield 9, 3) := by decide +kernel
theorem dX1_at_9 : decode cX1_at 9 = .ok (.if_icmp .ge 12, 3) := by decide +kernel
theorem dX1_at_12 : decode cX1_at 12 = .ok (.aload_n 0, 1) := by decide +kernel
theorem dX1_at_13 : decode cX1_at 13 = .ok (.getfield 15, 3) := by decide +kernel
theorem dX1_at_16 : decode cX1_at 16 = .ok (.iload_n 1, 1) := by decide +kernel
theorem dX1_at_17 : decode cX1_at 17 = .ok (.iaload, 1) := by decide +kernel
theorem dX1_at_18 : decode cX1_at 18 = .ok (.goto 5, 3) := by decide +kernel
theorem dX1_at_21 : decode cX1_at 21 = .ok (.bipush (-9), 2) := by decide +kernel
theorem dX1_at_23 : decode cX1_at 23 = .ok (.ireturn, 1) := by decide +kernel
theorem dX1_hundredthsUpTo_0 : decode cX1_hundredthsUpTo 0 = .ok (.iconst 0, 1) := by decide +kernel
theorem dX1_hundredthsUpTo_1 : decode cX1_hundredthsUpTo 1 = .ok (.istore_n 2, 1) := by decide +kernel
theorem dX1_hundredthsUpTo_2 : decode cX1_hundredthsUpTo 2 = .ok (.iconst 0, 1) := by decide +kernel
theorem dX1_hundredthsUpTo_3 : decode cX1_hundredthsUpTo 3 = .ok (.istore_n 3, 1) := by decide +kernel
theorem dX1_hundredthsUpTo_4 : decode cX1_hundredthsUpTo 4 = .ok (.iload_n 3, 1) := by decide +kernel
theorem dX1_hundredthsUpTo_5 : decode cX1_hundredthsUpTo 5 = .ok (.aload_n 0, 1) := by decide +kernel
theorem dX1_hundredthsUpTo_6 : decode cX1_hundredthsUpTo 6 = .ok (.getfield 9, 3) := by decide +kernel
theorem dX1_hundredthsUpTo_9 : decode cX1_hundredthsUpTo 9 = .ok (.if_icmp .ge 22, 3) := by decide +kernel
theorem dX1_hundredthsUpTo_12 : decode cX1_hundredthsUpTo 12 = .ok (.aload_n 0, 1) := by decide +kernel
theorem dX1_hundredthsUpTo_13 : decode cX1_hundredthsUpTo 13 = .ok (.getfield 15, 3) := by decide +kernel
theorem dX1_hundredthsUpTo_16 : decode cX1_hundredthsUpTo 16 = .ok (.iload_n 3, 1) := by decide +kernel
theorem dX1_hundredthsUpTo_17 : decode cX1_hundredthsUpTo 17 = .ok (.iaload, 1) := by decide +kernel
theorem dX1_hundredthsUpTo_18 : decode cX1_hundredthsUpTo 18 = .ok (.iload_n 1, 1) := by decide +kernel
theorem dX1_hundredthsUpTo_19 : decode cX1_hundredthsUpTo 19 = .ok (.if_icmp .gt 6, 3) := by decide +kernel
theorem dX1_hundredthsUpTo_22 : decode cX1_hundredthsUpTo 22 = .ok (.iinc 2 1, 3) := by decide +kernel
theorem dX1_hundredthsUpTo_25 : decode cX1_hundredthsUpTo 25 = .ok (.iinc 3 1, 3) := by decide +kernel
theorem dX1_hundredthsUpTo_28 : decode cX1_hundredthsUpTo 28 = .ok (.goto (-24), 3) := by decide +kernel
theorem dX1_hundredthsUpTo_31 : decode cX1_hundredthsUpTo 31 = .ok (.aload_n 0, 1) := by decide +kernel
theorem dX1_hundredthsUpTo_32 : decode cX1_hundredthsUpTo 32 = .ok (.getfield 9, 3) := by decide +kernel
theorem dX1_hundredthsUpTo_35 : decode cX1_hundredthsUpTo 35 = .ok (.ifCond .le 15, 3) := by decide +kernel
theorem dX1_hundredthsUpTo_38 : decode cX1_hundredthsUpTo 38 = .ok (.iload_n 2, 1) := by decide +kernel
theorem dX1_hundredthsUpTo_39 : decode cX1_hundredthsUpTo 39 = .ok (.bipush 100, 2) := by decide +kernel
theorem dX1_hundredthsUpTo_41 : decode cX1_hundredthsUpTo 41 = .ok (.imul, 1) := by decide +kernel
theorem dX1_hundredthsUpTo_42 : decode cX1_hundredthsUpTo 42 = .ok (.aload_n 0, 1) := by decide +kernel
theorem dX1_hundredthsUpTo_43 : decode cX1_hundredthsUpTo 43 = .ok (.getfield 9, 3) := by decide +kernel
theorem dX1_hundredthsUpTo_46 : decode cX1_hundredthsUpTo 46 = .ok (.idiv, 1) := by decide +kernel
theorem dX1_hundredthsUpTo_47 : decode cX1_hundredthsUpTo 47 = .ok (.goto 4, 3) := by decide +kernel
theorem dX1_hundredthsUpTo_50 : decode cX1_hundredthsUpTo 50 = .ok (.iconst 0, 1) := by decide +kernel
theorem dX1_hundredthsUpTo_51 : decode cX1_hundredthsUpTo 51 = .ok (.ireturn, 1) := by decide +kernel
theorem dX2_init_0 : decode cX2_init 0 = .ok (.aload_n 0, 1) := by decide +kernel
theorem dX2_init_1 : decode cX2_init 1 = .ok (.invokespecial 3, 3) := by decide +kernel
theorem dX2_init_4 : decode cX2_init 4 = .ok (.aload_n 0, 1) := by decide +kernel
theorem dX2_init_5 : decode cX2_init 5 = .ok (.new 9, 3) := by decide +kernel
theorem dX2_init_8 : decode cX2_init 8 = .ok (.dup, 1) := by decide +kernel
theorem dX2_init_9 : decode cX2_init 9 = .ok (.invokespecial 11, 3) := by decide +kernel
theorem dX2_init_12 : decode cX2_init 12 = .ok (.putfield 12, 3) := by decide +kernel
theorem dX2_init_15 : decode cX2_init 15 = .ok (.aload_n 0, 1) := by decide +kernel
theorem dX2_init_16 : decode cX2_init 16 = .ok (.new 18, 3) := by decide +kernel
theorem dX2_init_19 : decode cX2_init 19 = .ok (.dup, 1) := by decide +kernel
theorem dX2_init_20 : decode cX2_init 20 = .ok (.invokespecial 20, 3) := by decide +kernel
theorem dX2_init_23 : decode cX2_init 23 = .ok (.putfield 21, 3) := by decide +kernel
theorem dX2_init_26 : decode cX2_init 26 = .ok (.aload_n 0, 1) := by decide +kernel
theorem dX2_init_27 : decode cX2_init 27 = .ok (.new 25, 3) := by decide +kernel
theorem dX2_init_30 : decode cX2_init 30 = .ok (.dup, 1) := by decide +kernel
theorem dX2_init_31 : decode cX2_init 31 = .ok (.invokespecial 27, 3) := by decide +kernel
theorem dX2_init_34 : decode cX2_init 34 = .ok (.putfield 28, 3) := by decide +kernel
theorem dX2_init_37 : decode cX2_init 37 = .ok (.aload_n 0, 1) := by decide +kernel
theorem dX2_init_38 : decode cX2_init 38 = .ok (.bipush 12, 2) := by decide +kernel
theorem dX2_init_40 : decode cX2_init 40 = .ok (.anewarray 32, 3) := by decide +kernel
theorem dX2_init_43 : decode cX2_init 43 = .ok (.putfield 34, 3) := by decide +kernel
theorem dX2_init_46 : decode cX2_init 46 = .ok (.aload_n 0, 1) := by decide +kernel
theorem dX2_init_47 : decode cX2_init 47 = .ok (.bipush 60, 2) := by decide +kernel
theorem dX2_init_49 : decode cX2_init 49 = .ok (.newarray .boolean, 2) := by decide +kernel
theorem dX2_init_51 : decode cX2_init 51 = .ok (.putfield 38, 3) := by decide +kernel
theorem dX2_init_54 : decode cX2_init 54 = .ok (.aload_n 0, 1) := by decide +kernel
theorem dX2_init_55 : decode cX2_init 55 = .ok (.iconst 0, 1) := by decide +kernel
theorem dX2_init_56 : decode cX2_init 56 = .ok (.putfield 42, 3) := by decide +kernel
theorem dX2_init_59 : decode cX2_init 59 = .ok (.aload_n 0, 1) := by decide +kernel
theorem dX2_init_60 : decode cX2_init 60 = .ok (.iconst 0, 1) := by decide +kernel
theorem dX2_init_61 : decode cX2_init 61 = .ok (.putfield 46, 3) := by decide +kernel
theorem dX2_init_64 : decode cX2_init 64 = .ok (.aload_n 0, 1) := by decide +kernel
theorem dX2_init_65 : decode cX2_init 65 = .ok (.iconst 0, 1) := by decide +kernel
theorem dX2_init_66 : decode cX2_init 66 = .ok (.putfield 49, 3) := by decide +kernel
theorem dX2_init_69 : decode cX2_init 69 = .ok (.aload_n 0, 1) := by decide +kernel
theorem dX2_init_70 : decode cX2_init 70 = .ok (.iconst 0, 1) := by decide +kernel
theorem dX2_init_71 : decode cX2_init 71 = .ok (.putfield 52, 3) := by decide +kernel
theorem dX2_init_74 : decode cX2_init 74 = .ok (.aload_n 0, 1) := by decide +kernel
theorem dX2_init_75 : decode cX2_init 75 = .ok (.iconst 0, 1) := by decide +kernel
theorem dX2_init_76 : decode cX2_init 76 = .ok (.putfield 55, 3) := by decide +kernel
theorem dX2_init_79 : decode cX2_init 79 = .ok (.iconst 0, 1) := by decide +kernel
theorem dX2_init_80 : decode cX2_init 80 = .ok (.istore_n 1, 1) := by decide +kernel
theorem dX2_init_81 : decode cX2_init 81 = .ok (.iload_n 1, 1) := by decide +kernel
theorem dX2_init_82 : decode cX2_init 82 = .ok (.bipush 12, 2) := by decide +kernel
theorem dX2_init_84 : decode cX2_init 84 = .ok (.if_icmp .ge 22, 3) := by decide +kernel
theorem dX2_init_87 : decode cX2_init 87 = .ok (.aload_n 0, 1) := by decide +kernel
theorem dX2_init_88 : decode cX2_init 88 = .ok (.getfield 34, 3) := by decide +kernel
theorem dX2_init_91 : decode cX2_init 91 = .ok (.iload_n 1, 1) := by decide +kernel
theorem dX2_init_92 : decode cX2_init 92 = .ok (.new 32, 3) := by decide +kernel
theorem dX2_init_95 : decode cX2_init 95 = .ok (.dup, 1) := by decide +kernel
theorem dX2_init_96 : decode cX2_init 96 = .ok (.invokespecial 59, 3) := by decide +kernel
theorem dX2_init_99 : decode cX2_init 99 = .ok (.aastore, 1) := by decide +kernel
theorem dX2_init_100 : decode cX2_init 100 = .ok (.iinc 1 1, 3) := by decide +kernel
theorem dX2_init_103 : decode cX2_init 103 = .ok (.goto (-22), 3) := by decide +kernel
theorem dX2_init_106 : decode cX2_init 106 = .ok (.return_, 1) := by decide +kernel
theorem dX2_become_0 : decode cX2_become 0 = .ok (.aload_n 0, 1) := by decide +kernel
theorem dX2_become_1 : decode cX2_become 1 = .ok (.getfield 12, 3) := by decide +kernel
theorem dX2_become_4 : decode cX2_become 4 = .ok (.aload_n 1, 1) := by decide +kernel
theorem dX2_become_5 : decode cX2_become 5 = .ok (.getfield 12, 3) := by decide +kernel
theorem dX2_become_8 : decode cX2_become 8 = .ok (.invokevirtual 60, 3) := by decide +kernel
theorem dX2_become_11 : decode cX2_become 11 = .ok (.aload_n 0, 1) := by decide +kernel
theorem dX2_become_12 : decode cX2_become 12 = .ok (.getfield 21, 3) := by decide +kernel
theorem dX2_become_15 : decode cX2_become 15 = .ok (.aload_n 1, 1) := by decide +kernel
theorem dX2_become_16 : decode cX2_become 16 = .ok (.getfield 21, 3) := by decide +kernel
theorem dX2_become_19 : decode cX2_become 19 = .ok (.invokevirtual 64, 3) := by decide +kernel
theorem dX2_become_22 : decode cX2_become 22 = .ok (.aload_n 0, 1) := by decide +kernel
theorem dX2_become_23 : decode cX2_become 23 = .ok (.aload_n 1, 1) := by decide +kernel
theorem dX2_become_24 : decode cX2_become 24 = .ok (.getfield 42, 3) := by decide +kernel
theorem dX2_become_27 : decode cX2_become 27 = .ok (.putfield 42, 3) := by decide +kernel
theorem dX2_become_30 : decode cX2_become 30 = .ok (.iconst 0, 1) := by decide +kernel
theorem dX2_become_31 : decode cX2_become 31 = .ok (.istore_n 2, 1) := by decide +kernel
theorem dX2_become_32 : decode cX2_become 32 = .ok (.iload_n 2, 1) := by decide +kernel
theorem dX2_become_33 : decode cX2_become 33 = .ok (.aload_n 0, 1) := by decide +kernel
theorem dX2_become_34 : decode cX2_become 34 = .ok (.getfield 42, 3) := by decide +kernel
theorem dX2_become_37 : decode cX2_become 37 = .ok (.if_icmp .ge 30, 3) := by decide +kernel
theorem dX2_become_40 : decode cX2_become 40 = .ok (.iload_n 2, 1) := by decide +kernel
theorem dX2_become_41 : decode cX2_become 41 = .ok (.bipush 12, 2) := by decide +kernel
theorem dX2_become_43 : decode cX2_become 43 = .ok (.if_icmp .ge 24, 3) := by decide +kernel
theorem dX2_become_46 : decode cX2_become 46 = .ok (.aload_n 0, 1) := by decide +kernel
theorem dX2_become_47 : decode cX2_become 47 = .ok (.getfield 34, 3) := by decide +kernel
theorem dX2_become_50 : decode cX2_become 50 = .ok (.iload_n 2, 1) := by decide +kernel
theorem dX2_become_51 : decode cX2_become 51 = .ok (.aaload, 1) := by decide +kernel
theorem dX2_become_52 : decode cX2_become 52 = .ok (.aload_n 1, 1) := by decide +kernel
theorem dX2_become_53 : decode cX2_become 53 = .ok (.getfield 34, 3) := by decide +kernel
theorem dX2_become_56 : decode cX2_become 56 = .ok (.iload_n 2, 1) := by decide +kernel
theorem dX2_become_57 : decode cX2_become 57 = .ok (.aaload, 1) := by decide +kernel
theorem dX2_become_58 : decode cX2_become 58 = .ok (.invokevirtual 67, 3) := by decide +kernel
theorem dX2_become_61 : decode cX2_become 61 = .ok (.iinc 2 1, 3) := by decide +kernel
theorem dX2_become_64 : decode cX2_become 64 = .ok (.goto (-32), 3) := by decide +kernel
theorem dX2_become_67 : decode cX2_become 67 = .ok (.aload_n 1, 1) := by decide +kernel
theorem dX2_become_68 : decode cX2_become 68 = .ok (.getfield 38, 3) := by decide +kernel
theorem dX2_become_71 : decode cX2_become 71 = .ok (.iconst 0, 1) := by decide +kernel
theorem dX2_become_72 : decode cX2_become 72 = .ok (.aload_n 0, 1) := by decide +kernel
theorem dX2_become_73 : decode cX2_become 73 = .ok (.getfield 38, 3) := by decide +kernel
theorem dX2_become_76 : decode cX2_become 76 = .ok (.iconst 0, 1) := by decide +kernel
theorem dX2_become_77 : decode cX2_become 77 = .ok (.bipush 60, 2) := by decide +kernel
theorem dX2_become_79 : decode cX2_become 79 = .ok (.invokestatic 70, 3) := by decide +kernel
theorem dX2_become_82 : decode cX2_become 82 = .ok (.aload_n 0, 1) := by decide +kernel
theorem dX2_become_83 : decode cX2_become 83 = .ok (.aload_n 1, 1) := by decide +kernel
theorem dX2_become_84 : decode cX2_become 84 = .ok (.getfield 46, 3) := by decide +kernel
theorem dX2_become_87 : decode cX2_become 87 = .ok (.putfield 46, 3) := by decide +kernel
theorem dX2_become_90 : decode cX2_become 90 = .ok (.aload_n 0, 1) := by decide +kernel
theorem dX2_become_91 : decode cX2_become 91 = .ok (.aload_n 1, 1) := by decide +kernel
theorem dX2_become_92 : decode cX2_become 92 = .ok (.getfield 49, 3) := by decide +kernel
theorem dX2_become_95 : decode cX2_become 95 = .ok (.putfield 49, 3) := by decide +kernel
theorem dX2_become_98 : decode cX2_become 98 = .ok (.aload_n 0, 1) := by decide +kernel
theorem dX2_become_99 : decode cX2_become 99 = .ok (.aload_n 1, 1) := by decide +kernel
theorem dX2_become_100 : decode cX2_become 100 = .ok (.getfield 52, 3) := by decide +kernel
theorem dX2_become_103 : decode cX2_become 103 = .ok (.putfield 52, 3) := by decide +kernel
theorem dX2_become_106 : decode cX2_become 106 = .ok (.aload_n 0, 1) := by decide +kernel
theorem dX2_become_107 : decode cX2_become 107 = .ok (.aload_n 1, 1) := by decide +kernel
theorem dX2_become_108 : decode cX2_become 108 = .ok (.getfield 55, 3) := by decide +kernel
theorem dX2_become_111 : decode cX2_become 111 = .ok (.putfield 55, 3) := by decide +kernel
theorem dX2_become_114 : decode cX2_become 114 = .ok (.return_, 1) := by decide +kernel
theorem dX2_knows_0 : decode cX2_knows 0 = .ok (.iload_n 1, 1) := by decide +kernel
theorem dX2_knows_1 : decode cX2_knows 1 = .ok (.ifCond .lt 21, 3) := by decide +kernel
theorem dX2_knows_4 : decode cX2_knows 4 = .ok (.iload_n 1, 1) := by decide +kernel
theorem dX2_knows_5 : decode cX2_knows 5 = .ok (.aload_n 0, 1) := by decide +kernel
theorem dX2_knows_6 : decode cX2_knows 6 = .ok (.getfield 42, 3) := by decide +kernel
theorem dX2_knows_9 : decode cX2_knows 9 = .ok (.if_icmp .ge 13, 3) := by decide +kernel
theorem dX2_knows_12 : decode cX2_knows 12 = .ok (.iload_n 1, 1) := by decide +kernel
theorem dX2_knows_13 : decode cX2_knows 13 = .ok (.bipush 12, 2) := by decide +kernel
theorem dX2_knows_15 : decode cX2_knows 15 = .ok (.if_icmp .ge 7, 3) := by decide +kernel
theorem dX2_knows_18 : decode cX2_knows 18 = .ok (.iconst 1, 1) := by decide +kernel
theorem dX2_knows_19 : decode cX2_knows 19 = .ok (.goto 4, 3) := by decide +kernel
theorem dX2_knows_22 : decode cX2_knows 22 = .ok (.iconst 0, 1) := by decide +kernel
theorem dX2_knows_23 : decode cX2_knows 23 = .ok (.ireturn, 1) := by decide +kernel
theorem dX2_knowsIn_0 : decode cX2_knowsIn 0 = .ok (.iload_n 1, 1) := by decide +kernel
theorem dX2_knowsIn_1 : decode cX2_knowsIn 1 = .ok (.ifCond .lt 33, 3) := by decide +kernel
theorem dX2_knowsIn_4 : decode cX2_knowsIn 4 = .ok (.iload_n 1, 1) := by decide +kernel
theorem dX2_knowsIn_5 : decode cX2_knowsIn 5 = .ok (.aload_n 0, 1) := by decide +kernel
theorem dX2_knowsIn_6 : decode cX2_knowsIn 6 = .ok (.getfield 42, 3) := by decide +kernel
theorem dX2_knowsIn_9 : decode cX2_knowsIn 9 = .ok (.if_icmp .ge 25, 3) := by decide +kernel
theorem dX2_knowsIn_12 : decode cX2_knowsIn 12 = .ok (.iload_n 1, 1) := by decide +kernel
theorem dX2_knowsIn_13 : decode cX2_knowsIn 13 = .ok (.bipush 12, 2) := by decide +kernel
theorem dX2_knowsIn_15 : decode cX2_knowsIn 15 = .ok (.if_icmp .ge 19, 3) := by decide +kernel
theorem dX2_knowsIn_18 : decode cX2_knowsIn 18 = .ok (.aload_n 0, 1) := by decide +kernel
theorem dX2_knowsIn_19 : decode cX2_knowsIn 19 = .ok (.getfield 34, 3) := by decide +kernel
theorem dX2_knowsIn_22 : decode cX2_knowsIn 22 = .ok (.iload_n 1, 1) := by decide +kernel
theorem dX2_knowsIn_23 : decode cX2_knowsIn 23 = .ok (.aaload, 1) := by decide +kernel
theorem dX2_knowsIn_24 : decode cX2_knowsIn 24 = .ok (.getfield 76, 3) := by decide +kernel
theorem dX2_knowsIn_27 : decode cX2_knowsIn 27 = .ok (.ifCond .eq 7, 3) := by decide +kernel
theorem dX2_knowsIn_30 : decode cX2_knowsIn 30 = .ok (.iconst 1, 1) := by decide +kernel
theorem dX2_knowsIn_31 : decode cX2_knowsIn 31 = .ok (.goto 4, 3) := by decide +kernel
theorem dX2_knowsIn_34 : decode cX2_knowsIn 34 = .ok (.iconst 0, 1) := by decide +kernel
theorem dX2_knowsIn_35 : decode cX2_knowsIn 35 = .ok (.ireturn, 1) := by decide +kernel
theorem dX2_countIn_0 : decode cX2_countIn 0 = .ok (.iconst 0, 1) := by decide +kernel
theorem dX2_countIn_1 : decode cX2_countIn 1 = .ok (.istore_n 1, 1) := by decide +kernel
theorem dX2_countIn_2 : decode cX2_countIn 2 = .ok (.iconst 0, 1) := by decide +kernel
theorem dX2_countIn_3 : decode cX2_countIn 3 = .ok (.istore_n 2, 1) := by decide +kernel
theorem dX2_countIn_4 : decode cX2_countIn 4 = .ok (.iload_n 2, 1) := by decide +kernel
theorem dX2_countIn_5 : decode cX2_countIn 5 = .ok (.aload_n 0, 1) := by decide +kernel
theorem dX2_countIn_6 : decode cX2_countIn 6 = .ok (.getfield 42, 3) := by decide +kernel
theorem dX2_countIn_9 : decode cX2_countIn 9 = .ok (.if_icmp .ge 20, 3) := by decide +kernel
theorem dX2_countIn_12 : decode cX2_countIn 12 = .ok (.aload_n 0, 1) := by decide +kernel
theorem dX2_countIn_13 : decode cX2_countIn 13 = .ok (.iload_n 2, 1) := by decide +kernel
theorem dX2_countIn_14 : decode cX2_countIn 14 = .ok (.invokevirtual 79, 3) := by decide +kernel
theorem dX2_countIn_17 : decode cX2_countIn 17 = .ok (.ifCond .eq 6, 3) := by decide +kernel
theorem dX2_countIn_20 : decode cX2_countIn 20 = .ok (.iinc 1 1, 3) := by decide +kernel
theorem dX2_countIn_23 : decode cX2_countIn 23 = .ok (.iinc 2 1, 3) := by decide +kernel
theorem dX2_countIn_26 : decode cX2_countIn 26 = .ok (.goto (-22), 3) := by decide +kernel
theorem dX2_countIn_29 : decode cX2_countIn 29 = .ok (.iload_n 1, 1) := by decide +kernel
theorem dX2_countIn_30 : decode cX2_countIn 30 = .ok (.ireturn, 1) := by decide +kernel
theorem dX2_canGoOn_0 : decode cX2_canGoOn 0 = .ok (.aload_n 0, 1) := by decide +kernel
theorem dX2_canGoOn_1 : decode cX2_canGoOn 1 = .ok (.getfield 55, 3) := by decide +kernel
theorem dX2_canGoOn_4 : decode cX2_canGoOn 4 = .ok (.ifCond .ne 25, 3) := by decide +kernel
theorem dX2_canGoOn_7 : decode cX2_canGoOn 7 = .ok (.aload_n 0, 1) := by decide +kernel
theorem dX2_canGoOn_8 : decode cX2_canGoOn 8 = .ok (.invokevirtual 83, 3) := by decide +kernel
theorem dX2_canGoOn_11 : decode cX2_canGoOn 11 = .ok (.iconst 2, 1) := by decide +kernel
theorem dX2_canGoOn_12 : decode cX2_canGoOn 12 = .ok (.if_icmp .lt 17, 3) := by decide +kernel
theorem dX2_canGoOn_15 : decode cX2_canGoOn 15 = .ok (.aload_n 0, 1) := by decide +kernel
theorem dX2_canGoOn_16 : decode cX2_canGoOn 16 = .ok (.getfield 12, 3) := by decide +kernel
theorem dX2_canGoOn_19 : decode cX2_canGoOn 19 = .ok (.getfield 87, 3) := by decide +kernel
theorem dX2_canGoOn_22 : decode cX2_canGoOn 22 = .ok (.ifCond .le 7, 3) := by decide +kernel
theorem dX2_canGoOn_25 : decode cX2_canGoOn 25 = .ok (.iconst 1, 1) := by decide +kernel
theorem dX2_canGoOn_26 : decode cX2_canGoOn 26 = .ok (.goto 4, 3) := by decide +kernel
theorem dX2_canGoOn_29 : decode cX2_canGoOn 29 = .ok (.iconst 0, 1) := by decide +kernel
theorem dX2_canGoOn_30 : decode cX2_canGoOn 30 = .ok (.ireturn, 1) := by decide +kernel
theorem dX2_isStoodOn_0 : decode cX2_isStoodOn 0 = .ok (.iload_n 1, 1) := by decide +kernel
theorem dX2_isStoodOn_1 : decode cX2_isStoodOn 1 = .ok (.ifCond .lt 22, 3) := by decide +kernel
theorem dX2_isStoodOn_4 : decode cX2_isStoodOn 4 = .ok (.iload_n 1, 1) := by decide +kernel
theorem dX2_isStoodOn_5 : decode cX2_isStoodOn 5 = .ok (.bipush 60, 2) := by decide +kernel
theorem dX2_isStoodOn_7 : decode cX2_isStoodOn 7 = .ok (.if_icmp .ge 16, 3) := by decide +kernel
theorem dX2_isStoodOn_10 : decode cX2_isStoodOn 10 = .ok (.aload_n 0, 1) := by decide +kernel
theorem dX2_isStoodOn_11 : decode cX2_isStoodOn 11 = .ok (.getfield 38, 3) := by decide +kernel
theorem dX2_isStoodOn_14 : decode cX2_isStoodOn 14 = .ok (.iload_n 1, 1) := by decide +kernel
theorem dX2_isStoodOn_15 : decode cX2_isStoodOn 15 = .ok (.baload, 1) := by decide +kernel
theorem dX2_isStoodOn_16 : decode cX2_isStoodOn 16 = .ok (.ifCond .eq 7, 3) := by decide +kernel
theorem dX2_isStoodOn_19 : decode cX2_isStoodOn 19 = .ok (.iconst 1, 1) := by decide +kernel
theorem dX2_isStoodOn_20 : decode cX2_isStoodOn 20 = .ok (.goto 4, 3) := by decide +kernel
theorem dX2_isStoodOn_23 : decode cX2_isStoodOn 23 = .ok (.iconst 0, 1) := by decide +kernel
theorem dX2_isStoodOn_24 : decode cX2_isStoodOn 24 = .ok (.ireturn, 1) := by decide +kernel
theorem dX2_mark_0 : decode cX2_mark 0 = .ok (.iload_n 1, 1) := by decide +kernel
theorem dX2_mark_1 : decode cX2_mark 1 = .ok (.ifCond .lt 16, 3) := by decide +kernel
theorem dX2_mark_4 : decode cX2_mark 4 = .ok (.iload_n 1, 1) := by decide +kernel
theorem dX2_mark_5 : decode cX2_mark 5 = .ok (.bipush 60, 2) := by decide +kernel
theorem dX2_mark_7 : decode cX2_mark 7 = .ok (.if_icmp .ge 10, 3) := by decide +kernel
theorem dX2_mark_10 : decode cX2_mark 10 = .ok (.aload_n 0, 1) := by decide +kernel
theorem dX2_mark_11 : decode cX2_mark 11 = .ok (.getfield 38, 3) := by decide +kernel
theorem dX2_mark_14 : decode cX2_mark 14 = .ok (.iload_n 1, 1) := by decide +kernel
theorem dX2_mark_15 : decode cX2_mark 15 = .ok (.iload_n 2, 1) := by decide +kernel
theorem dX2_mark_16 : decode cX2_mark 16 = .ok (.bastore, 1) := by decide +kernel
theorem dX2_mark_17 : decode cX2_mark 17 = .ok (.return_, 1) := by decide +kernel
theorem dX2_whyNoChair_0 : decode cX2_whyNoChair 0 = .ok (.aload_n 0, 1) := by decide +kernel
theorem dX2_whyNoChair_1 : decode cX2_whyNoChair 1 = .ok (.getfield 12, 3) := by decide +kernel
theorem dX2_whyNoChair_4 : decode cX2_whyNoChair 4 = .ok (.iload_n 1, 1) := by decide +kernel
theorem dX2_whyNoChair_5 : decode cX2_whyNoChair 5 = .ok (.invokevirtual 90, 3) := by decide +kernel
theorem dX2_whyNoChair_8 : decode cX2_whyNoChair 8 = .ok (.ifCond .ne 5, 3) := by decide +kernel
theorem dX2_whyNoChair_11 : decode cX2_whyNoChair 11 = .ok (.iconst 1, 1) := by decide +kernel
theorem dX2_whyNoChair_12 : decode cX2_whyNoChair 12 = .ok (.ireturn, 1) := by decide +kernel
theorem dX2_whyNoChair_13 : decode cX2_whyNoChair 13 = .ok (.aload_n 0, 1) := by decide +kernel
theorem dX2_whyNoChair_14 : decode cX2_whyNoChair 14 = .ok (.getfield 12, 3) := by decide +kernel
theorem dX2_whyNoChair_17 : decode cX2_whyNoChair 17 = .ok (.iload_n 1, 1) := by decide +kernel
theorem dX2_whyNoChair_18 : decode cX2_whyNoChair 18 = .ok (.invokevirtual 93, 3) := by decide +kernel
theorem dX2_whyNoChair_21 : decode cX2_whyNoChair 21 = .ok (.ifCond .eq 5, 3) := by decide +kernel
theorem dX2_whyNoChair_24 : decode cX2_whyNoChair 24 = .ok (.iconst 3, 1) := by decide +kernel
theorem dX2_whyNoChair_25 : decode cX2_whyNoChair 25 = .ok (.ireturn, 1) := by decide +kernel
theorem dX2_whyNoChair_26 : decode cX2_whyNoChair 26 = .ok (.aload_n 0, 1) := by decide +kernel
theorem dX2_whyNoChair_27 : decode cX2_whyNoChair 27 = .ok (.getfield 12, 3) := by decide +kernel
theorem dX2_whyNoChair_30 : decode cX2_whyNoChair 30 = .ok (.getfield 87, 3) := by decide +kernel
theorem dX2_whyNoChair_33 : decode cX2_whyNoChair 33 = .ok (.bipush 11, 2) := by decide +kernel
theorem dX2_whyNoChair_35 : decode cX2_whyNoChair 35 = .ok (.if_icmp .lt 8, 3) := by decide +kernel
theorem dX2_whyNoChair_38 : decode cX2_whyNoChair 38 = .ok (.bipush 6, 2) := by decide +kernel
theorem dX2_whyNoChair_40 : decode cX2_whyNoChair 40 = .ok (.goto 4, 3) := by decide +kernel
theorem dX2_whyNoChair_43 : decode cX2_whyNoChair 43 = .ok (.iconst 0, 1) := by decide +kernel
theorem dX2_whyNoChair_44 : decode cX2_whyNoChair 44 = .ok (.ireturn, 1) := by decide +kernel
theorem dX2_addChair_0 : decode cX2_addChair 0 = .ok (.aload_n 0, 1) := by decide +kernel
theorem dX2_addChair_1 : decode cX2_addChair 1 = .ok (.getfield 12, 3) := by decide +kernel
theorem dX2_addChair_4 : decode cX2_addChair 4 = .ok (.iload_n 1, 1) := by decide +kernel
theorem dX2_addChair_5 : decode cX2_addChair 5 = .ok (.invokevirtual 96, 3) := by decide +kernel
theorem dX2_addChair_8 : decode cX2_addChair 8 = .ok (.aload_n 0, 1) := by decide +kernel
theorem dX2_addChair_9 : decode cX2_addChair 9 = .ok (.iconst 0, 1) := by decide +kernel
theorem dX2_addChair_10 : decode cX2_addChair 10 = .ok (.putfield 55, 3) := by decide +kernel
theorem dX2_addChair_13 : decode cX2_addChair 13 = .ok (.aload_n 0, 1) := by decide +kernel
theorem dX2_addChair_14 : decode cX2_addChair 14 = .ok (.getfield 12, 3) := by decide +kernel
theorem dX2_addChair_17 : decode cX2_addChair 17 = .ok (.getfield 87, 3) := by decide +kernel
theorem dX2_addChair_20 : decode cX2_addChair 20 = .ok (.ireturn, 1) := by decide +kernel
theorem dX2_whyNoWalker_0 : decode cX2_whyNoWalker 0 = .ok (.aload_n 0, 1) := by decide +kernel
theorem dX2_whyNoWalker_1 : decode cX2_whyNoWalker 1 = .ok (.getfield 12, 3) := by decide +kernel
theorem dX2_whyNoWalker_4 : decode cX2_whyNoWalker 4 = .ok (.iload_n 1, 1) := by decide +kernel
theorem dX2_whyNoWalker_5 : decode cX2_whyNoWalker 5 = .ok (.invokevirtual 90, 3) := by decide +kernel
theorem dX2_whyNoWalker_8 : decode cX2_whyNoWalker 8 = .ok (.ifCond .eq 13, 3) := by decide +kernel
theorem dX2_whyNoWalker_11 : decode cX2_whyNoWalker 11 = .ok (.iload_n 2, 1) := by decide +kernel
theorem dX2_whyNoWalker_12 : decode cX2_whyNoWalker 12 = .ok (.ifCond .lt 9, 3) := by decide +kernel
theorem dX2_whyNoWalker_15 : decode cX2_whyNoWalker 15 = .ok (.iload_n 2, 1) := by decide +kernel
theorem dX2_whyNoWalker_16 : decode cX2_whyNoWalker 16 = .ok (.bipush 7, 2) := by decide +kernel
theorem dX2_whyNoWalker_18 : decode cX2_whyNoWalker 18 = .ok (.if_icmp .lt 5, 3) := by decide +kernel
theorem dX2_whyNoWalker_21 : decode cX2_whyNoWalker 21 = .ok (.iconst 1, 1) := by decide +kernel
theorem dX2_whyNoWalker_22 : decode cX2_whyNoWalker 22 = .ok (.ireturn, 1) := by decide +kernel
theorem dX2_whyNoWalker_23 : decode cX2_whyNoWalker 23 = .ok (.iload_n 3, 1) := by decide +kernel
theorem dX2_whyNoWalker_24 : decode cX2_whyNoWalker 24 = .ok (.iconst 1, 1) := by decide +kernel
theorem dX2_whyNoWalker_25 : decode cX2_whyNoWalker 25 = .ok (.bipush 99, 2) := by decide +kernel
theorem dX2_whyNoWalker_27 : decode cX2_whyNoWalker 27 = .ok (.invokestatic 100, 3) := by decide +kernel
theorem dX2_whyNoWalker_30 : decode cX2_whyNoWalker 30 = .ok (.istore 4, 2) := by decide +kernel
theorem dX2_whyNoWalker_32 : decode cX2_whyNoWalker 32 = .ok (.iload 4, 2) := by decide +kernel
theorem dX2_whyNoWalker_34 : decode cX2_whyNoWalker 34 = .ok (.ifCond .eq 6, 3) := by decide +kernel
theorem dX2_whyNoWalker_37 : decode cX2_whyNoWalker 37 = .ok (.iload 4, 2) := by decide +kernel
theorem dX2_whyNoWalker_39 : decode cX2_whyNoWalker 39 = .ok (.ireturn, 1) := by decide +kernel
theorem dX2_whyNoWalker_40 : decode cX2_whyNoWalker 40 = .ok (.aload_n 0, 1) := by decide +kernel
theorem dX2_whyNoWalker_41 : decode cX2_whyNoWalker 41 = .ok (.getfield 42, 3) := by decide +kernel
theorem dX2_whyNoWalker_44 : decode cX2_whyNoWalker 44 = .ok (.bipush 12, 2) := by decide +kernel
theorem dX2_whyNoWalker_46 : decode cX2_whyNoWalker 46 = .ok (.if_icmp .lt 6, 3) := by decide +kernel
theorem dX2_whyNoWalker_49 : decode cX2_whyNoWalker 49 = .ok (.bipush 6, 2) := by decide +kernel
theorem dX2_whyNoWalker_51 : decode cX2_whyNoWalker 51 = .ok (.ireturn, 1) := by decide +kernel
theorem dX2_whyNoWalker_52 : decode cX2_whyNoWalker 52 = .ok (.aload_n 0, 1) := by decide +kernel
theorem dX2_whyNoWalker_53 : decode cX2_whyNoWalker 53 = .ok (.iload_n 1, 1) := by decide +kernel
theorem dX2_whyNoWalker_54 : decode cX2_whyNoWalker 54 = .ok (.invokevirtual 104, 3) := by decide +kernel
theorem dX2_whyNoWalker_57 : decode cX2_whyNoWalker 57 = .ok (.ifCond .eq 7, 3) := by decide +kernel
theorem dX2_whyNoWalker_60 : decode cX2_whyNoWalker 60 = .ok (.iconst 3, 1) := by decide +kernel
theorem dX2_whyNoWalker_61 : decode cX2_whyNoWalker 61 = .ok (.goto 4, 3) := by decide +kernel
theorem dX2_whyNoWalker_64 : decode cX2_whyNoWalker 64 = .ok (.iconst 0, 1) := by decide +kernel
theorem dX2_whyNoWalker_65 : decode cX2_whyNoWalker 65 = .ok (.ireturn, 1) := by decide +kernel
theorem dX2_addWalker_0 : decode cX2_addWalker 0 = .ok (.aload_n 0, 1) := by decide +kernel
theorem dX2_addWalker_1 : decode cX2_addWalker 1 = .ok (.getfield 42, 3) := by decide +kernel
theorem dX2_addWalker_4 : decode cX2_addWalker 4 = .ok (.istore 4, 2) := by decide +kernel
theorem dX2_addWalker_6 : decode cX2_addWalker 6 = .ok (.iload 4, 2) := by decide +kernel
theorem dX2_addWalker_8 : decode cX2_addWalker 8 = .ok (.ifCond .lt 42, 3) := by decide +kernel
theorem dX2_addWalker_11 : decode cX2_addWalker 11 = .ok (.iload 4, 2) := by decide +kernel
theorem dX2_addWalker_13 : decode cX2_addWalker 13 = .ok (.bipush 12, 2) := by decide +kernel
theorem dX2_addWalker_15 : decode cX2_addWalker 15 = .ok (.if_icmp .ge 35, 3) := by decide +kernel
theorem dX2_addWalker_18 : decode cX2_addWalker 18 = .ok (.aload_n 0, 1) := by decide +kernel
theorem dX2_addWalker_19 : decode cX2_addWalker 19 = .ok (.getfield 34, 3) := by decide +kernel
theorem dX2_addWalker_22 : decode cX2_addWalker 22 = .ok (.iload 4, 2) := by decide +kernel
theorem dX2_addWalker_24 : decode cX2_addWalker 24 = .ok (.aaload, 1) := by decide +kernel
theorem dX2_addWalker_25 : decode cX2_addWalker 25 = .ok (.iload_n 1, 1) := by decide +kernel
theorem dX2_addWalker_26 : decode cX2_addWalker 26 = .ok (.iload_n 2, 1) := by decide +kernel
theorem dX2_addWalker_27 : decode cX2_addWalker 27 = .ok (.iload_n 3, 1) := by decide +kernel
theorem dX2_addWalker_28 : decode cX2_addWalker 28 = .ok (.invokevirtual 107, 3) := by decide +kernel
theorem dX2_addWalker_31 : decode cX2_addWalker 31 = .ok (.aload_n 0, 1) := by decide +kernel
theorem dX2_addWalker_32 : decode cX2_addWalker 32 = .ok (.iload_n 1, 1) := by decide +kernel
theorem dX2_addWalker_33 : decode cX2_addWalker 33 = .ok (.iconst 1, 1) := by decide +kernel
theorem dX2_addWalker_34 : decode cX2_addWalker 34 = .ok (.invokevirtual 111, 3) := by decide +kernel
theorem dX2_addWalker_37 : decode cX2_addWalker 37 = .ok (.aload_n 0, 1) := by decide +kernel
theorem dX2_addWalker_38 : decode cX2_addWalker 38 = .ok (.iload 4, 2) := by decide +kernel
theorem dX2_addWalker_40 : decode cX2_addWalker 40 = .ok (.iconst 1, 1) := by decide +kernel
theorem dX2_addWalker_41 : decode cX2_addWalker 41 = .ok (.iadd, 1) := by decide +kernel
theorem dX2_addWalker_42 : decode cX2_addWalker 42 = .ok (.putfield 42, 3) := by decide +kernel
theorem dX2_addWalker_45 : decode cX2_addWalker 45 = .ok (.aload_n 0, 1) := by decide +kernel
theorem dX2_addWalker_46 : decode cX2_addWalker 46 = .ok (.iconst 0, 1) := by decide +kernel
theorem dX2_addWalker_47 : decode cX2_addWalker 47 = .ok (.putfield 55, 3) := by decide +kernel
theorem dX2_addWalker_50 : decode cX2_addWalker 50 = .ok (.iload 4, 2) := by decide +kernel
theorem dX2_addWalker_52 : decode cX2_addWalker 52 = .ok (.ireturn, 1) := by decide +kernel
theorem dX2_walkAll_0 : decode cX2_walkAll 0 = .ok (.iconst 0, 1) := by decide +kernel
theorem dX2_walkAll_1 : decode cX2_walkAll 1 = .ok (.istore_n 1, 1) := by decide +kernel
theorem dX2_walkAll_2 : decode cX2_walkAll 2 = .ok (.iload_n 1, 1) := by decide +kernel
theorem dX2_walkAll_3 : decode cX2_walkAll 3 = .ok (.aload_n 0, 1) := by decide +kernel
theorem dX2_walkAll_4 : decode cX2_walkAll 4 = .ok (.getfield 42, 3) := by decide +kernel
theorem dX2_walkAll_7 : decode cX2_walkAll 7 = .ok (.if_icmp .ge 37, 3) := by decide +kernel
theorem dX2_walkAll_10 : decode cX2_walkAll 10 = .ok (.iload_n 1, 1) := by decide +kernel
theorem dX2_walkAll_11 : decode cX2_walkAll 11 = .ok (.bipush 12, 2) := by decide +kernel
theorem dX2_walkAll_13 : decode cX2_walkAll 13 = .ok (.if_icmp .ge 31, 3) := by decide +kernel
theorem dX2_walkAll_16 : decode cX2_walkAll 16 = .ok (.aload_n 0, 1) := by decide +kernel
theorem dX2_walkAll_17 : decode cX2_walkAll 17 = .ok (.getfield 34, 3) := by decide +kernel
theorem dX2_walkAll_20 : decode cX2_walkAll 20 = .ok (.iload_n 1, 1) := by decide +kernel
theorem dX2_walkAll_21 : decode cX2_walkAll 21 = .ok (.aaload, 1) := by decide +kernel
theorem dX2_walkAll_22 : decode cX2_walkAll 22 = .ok (.getfield 76, 3) := by decide +kernel
theorem dX2_walkAll_25 : decode cX2_walkAll 25 = .ok (.ifCond .eq 13, 3) := by decide +kernel
theorem dX2_walkAll_28 : decode cX2_walkAll 28 = .ok (.aload_n 0, 1) := by decide +kernel
theorem dX2_walkAll_29 : decode cX2_walkAll 29 = .ok (.aload_n 0, 1) := by decide +kernel
theorem dX2_walkAll_30 : decode cX2_walkAll 30 = .ok (.getfield 34, 3) := by decide +kernel
theorem dX2_walkAll_33 : decode cX2_walkAll 33 = .ok (.iload_n 1, 1) := by decide +kernel
theorem dX2_walkAll_34 : decode cX2_walkAll 34 = .ok (.aaload, 1) := by decide +kernel
theorem dX2_walkAll_35 : decode cX2_walkAll 35 = .ok (.invokevirtual 115, 3) := by decide +kernel
theorem dX2_walkAll_38 : decode cX2_walkAll 38 = .ok (.iinc 1 1, 3) := by decide +kernel
theorem dX2_walkAll_41 : decode cX2_walkAll 41 = .ok (.goto (-39), 3) := by decide +kernel
theorem dX2_walkAll_44 : decode cX2_walkAll 44 = .ok (.return_, 1) := by decide +kernel
theorem dX2_walk_0 : decode cX2_walk 0 = .ok (.aload_n 1, 1) := by decide +kernel
theorem dX2_walk_1 : decode cX2_walk 1 = .ok (.dup, 1) := by decide +kernel
theorem dX2_walk_2 : decode cX2_walk 2 = .ok (.getfield 118, 3) := by decide +kernel
theorem dX2_walk_5 : decode cX2_walk 5 = .ok (.aload_n 0, 1) := by decide +kernel
theorem dX2_walk_6 : decode cX2_walk 6 = .ok (.getfield 12, 3) := by decide +kernel
theorem dX2_walk_9 : decode cX2_walk 9 = .ok (.aload_n 1, 1) := by decide +kernel
theorem dX2_walk_10 : decode cX2_walk 10 = .ok (.getfield 121, 3) := by decide +kernel
theorem dX2_walk_13 : decode cX2_walk 13 = .ok (.invokevirtual 93, 3) := by decide +kernel
theorem dX2_walk_16 : decode cX2_walk 16 = .ok (.ifCond .eq 10, 3) := by decide +kernel
theorem dX2_walk_19 : decode cX2_walk 19 = .ok (.aload_n 1, 1) := by decide +kernel
theorem dX2_walk_20 : decode cX2_walk 20 = .ok (.getfield 124, 3) := by decide +kernel
theorem dX2_walk_23 : decode cX2_walk 23 = .ok (.goto 7, 3) := by decide +kernel
theorem dX2_walk_26 : decode cX2_walk 26 = .ok (.aload_n 1, 1) := by decide +kernel
theorem dX2_walk_27 : decode cX2_walk 27 = .ok (.getfield 127, 3) := by decide +kernel
theorem dX2_walk_30 : decode cX2_walk 30 = .ok (.iadd, 1) := by decide +kernel
theorem dX2_walk_31 : decode cX2_walk 31 = .ok (.putfield 118, 3) := by decide +kernel
theorem dX2_walk_34 : decode cX2_walk 34 = .ok (.aload_n 1, 1) := by decide +kernel
theorem dX2_walk_35 : decode cX2_walk 35 = .ok (.getfield 118, 3) := by decide +kernel
theorem dX2_walk_38 : decode cX2_walk 38 = .ok (.bipush 100, 2) := by decide +kernel
theorem dX2_walk_40 : decode cX2_walk 40 = .ok (.if_icmp .ge 4, 3) := by decide +kernel
theorem dX2_walk_43 : decode cX2_walk 43 = .ok (.return_, 1) := by decide +kernel
theorem dX2_walk_44 : decode cX2_walk 44 = .ok (.aload_n 1, 1) := by decide +kernel
theorem dX2_walk_45 : decode cX2_walk 45 = .ok (.getfield 121, 3) := by decide +kernel
theorem dX2_walk_48 : decode cX2_walk 48 = .ok (.iconst 1, 1) := by decide +kernel
theorem dX2_walk_49 : decode cX2_walk 49 = .ok (.iadd, 1) := by decide +kernel
theorem dX2_walk_50 : decode cX2_walk 50 = .ok (.aload_n 0, 1) := by decide +kernel
theorem dX2_walk_51 : decode cX2_walk 51 = .ok (.getfield 12, 3) := by decide +kernel
theorem dX2_walk_54 : decode cX2_walk 54 = .ok (.getfield 130, 3) := by decide +kernel
theorem dX2_walk_57 : decode cX2_walk 57 = .ok (.if_icmp .ge 12, 3) := by decide +kernel
theorem dX2_walk_60 : decode cX2_walk 60 = .ok (.aload_n 1, 1) := by decide +kernel
theorem dX2_walk_61 : decode cX2_walk 61 = .ok (.getfield 121, 3) := by decide +kernel
theorem dX2_walk_64 : decode cX2_walk 64 = .ok (.iconst 1, 1) := by decide +kernel
theorem dX2_walk_65 : decode cX2_walk 65 = .ok (.iadd, 1) := by decide +kernel
theorem dX2_walk_66 : decode cX2_walk 66 = .ok (.goto 4, 3) := by decide +kernel
theorem dX2_walk_69 : decode cX2_walk 69 = .ok (.iconst 0, 1) := by decide +kernel
theorem dX2_walk_70 : decode cX2_walk 70 = .ok (.istore_n 2, 1) := by decide +kernel
theorem dX2_walk_71 : decode cX2_walk 71 = .ok (.aload_n 0, 1) := by decide +kernel
theorem dX2_walk_72 : decode cX2_walk 72 = .ok (.iload_n 2, 1) := by decide +kernel
theorem dX2_walk_73 : decode cX2_walk 73 = .ok (.invokevirtual 104, 3) := by decide +kernel
theorem dX2_walk_76 : decode cX2_walk 76 = .ok (.ifCond .eq 12, 3) := by decide +kernel
theorem dX2_walk_79 : decode cX2_walk 79 = .ok (.aload_n 1, 1) := by decide +kernel
theorem dX2_walk_80 : decode cX2_walk 80 = .ok (.bipush 99, 2) := by decide +kernel
theorem dX2_walk_82 : decode cX2_walk 82 = .ok (.putfield 118, 3) := by decide +kernel
theorem dX2_walk_85 : decode cX2_walk 85 = .ok (.goto 34, 3) := by decide +kernel
theorem dX2_walk_88 : decode cX2_walk 88 = .ok (.aload_n 0, 1) := by decide +kernel
theorem dX2_walk_89 : decode cX2_walk 89 = .ok (.aload_n 1, 1) := by decide +kernel
theorem dX2_walk_90 : decode cX2_walk 90 = .ok (.getfield 121, 3) := by decide +kernel
theorem dX2_walk_93 : decode cX2_walk 93 = .ok (.iconst 0, 1) := by decide +kernel
theorem dX2_walk_94 : decode cX2_walk 94 = .ok (.invokevirtual 111, 3) := by decide +kernel
theorem dX2_walk_97 : decode cX2_walk 97 = .ok (.aload_n 0, 1) := by decide +kernel
theorem dX2_walk_98 : decode cX2_walk 98 = .ok (.iload_n 2, 1) := by decide +kernel
theorem dX2_walk_99 : decode cX2_walk 99 = .ok (.iconst 1, 1) := by decide +kernel
theorem dX2_walk_100 : decode cX2_walk 100 = .ok (.invokevirtual 111, 3) := by decide +kernel
theorem dX2_walk_103 : decode cX2_walk 103 = .ok (.aload_n 1, 1) := by decide +kernel
theorem dX2_walk_104 : decode cX2_walk 104 = .ok (.dup, 1) := by decide +kernel
theorem dX2_walk_105 : decode cX2_walk 105 = .ok (.getfield 118, 3) := by decide +kernel
theorem dX2_walk_108 : decode cX2_walk 108 = .ok (.bipush 100, 2) := by decide +kernel
theorem dX2_walk_110 : decode cX2_walk 110 = .ok (.isub, 1) := by decide +kernel
theorem dX2_walk_111 : decode cX2_walk 111 = .ok (.putfield 118, 3) := by decide +kernel
theorem dX2_walk_114 : decode cX2_walk 114 = .ok (.aload_n 1, 1) := by decide +kernel
theorem dX2_walk_115 : decode cX2_walk 115 = .ok (.iload_n 2, 1) := by decide +kernel
theorem dX2_walk_116 : decode cX2_walk 116 = .ok (.putfield 121, 3) := by decide +kernel
theorem dX2_walk_119 : decode cX2_walk 119 = .ok (.return_, 1) := by decide +kernel
theorem dX2_passTenth_0 : decode cX2_passTenth 0 = .ok (.aload_n 0, 1) := by decide +kernel
theorem dX2_passTenth_1 : decode cX2_passTenth 1 = .ok (.invokevirtual 133, 3) := by decide +kernel
theorem dX2_passTenth_4 : decode cX2_passTenth 4 = .ok (.aload_n 0, 1) := by decide +kernel
theorem dX2_passTenth_5 : decode cX2_passTenth 5 = .ok (.dup, 1) := by decide +kernel
theorem dX2_passTenth_6 : decode cX2_passTenth 6 = .ok (.getfield 49, 3) := by decide +kernel
theorem dX2_passTenth_9 : decode cX2_passTenth 9 = .ok (.iconst 1, 1) := by decide +kernel
theorem dX2_passTenth_10 : decode cX2_passTenth 10 = .ok (.iadd, 1) := by decide +kernel
theorem dX2_passTenth_11 : decode cX2_passTenth 11 = .ok (.putfield 49, 3) := by decide +kernel
theorem dX2_passTenth_14 : decode cX2_passTenth 14 = .ok (.aload_n 0, 1) := by decide +kernel
theorem dX2_passTenth_15 : decode cX2_passTenth 15 = .ok (.getfield 21, 3) := by decide +kernel
theorem dX2_passTenth_18 : decode cX2_passTenth 18 = .ok (.invokevirtual 136, 3) := by decide +kernel
theorem dX2_passTenth_21 : decode cX2_passTenth 21 = .ok (.istore_n 1, 1) := by decide +kernel
theorem dX2_passTenth_22 : decode cX2_passTenth 22 = .ok (.aload_n 0, 1) := by decide +kernel
theorem dX2_passTenth_23 : decode cX2_passTenth 23 = .ok (.getfield 49, 3) := by decide +kernel
theorem dX2_passTenth_26 : decode cX2_passTenth 26 = .ok (.sipush 300, 3) := by decide +kernel
theorem dX2_passTenth_29 : decode cX2_passTenth 29 = .ok (.if_icmp .ge 22, 3) := by decide +kernel
theorem dX2_passTenth_32 : decode cX2_passTenth 32 = .ok (.aload_n 0, 1) := by decide +kernel
theorem dX2_passTenth_33 : decode cX2_passTenth 33 = .ok (.getfield 21, 3) := by decide +kernel
theorem dX2_passTenth_36 : decode cX2_passTenth 36 = .ok (.aload_n 0, 1) := by decide +kernel
theorem dX2_passTenth_37 : decode cX2_passTenth 37 = .ok (.getfield 49, 3) := by decide +kernel
theorem dX2_passTenth_40 : decode cX2_passTenth 40 = .ok (.iload_n 1, 1) := by decide +kernel
theorem dX2_passTenth_41 : decode cX2_passTenth 41 = .ok (.aload_n 0, 1) := by decide +kernel
theorem dX2_passTenth_42 : decode cX2_passTenth 42 = .ok (.invokevirtual 139, 3) := by decide +kernel
theorem dX2_passTenth_45 : decode cX2_passTenth 45 = .ok (.invokevirtual 143, 3) := by decide +kernel
theorem dX2_passTenth_48 : decode cX2_passTenth 48 = .ok (.ifCond .eq 7, 3) := by decide +kernel
theorem dX2_passTenth_51 : decode cX2_passTenth 51 = .ok (.iconst 1, 1) := by decide +kernel
theorem dX2_passTenth_52 : decode cX2_passTenth 52 = .ok (.goto 4, 3) := by decide +kernel
theorem dX2_passTenth_55 : decode cX2_passTenth 55 = .ok (.iconst 0, 1) := by decide +kernel
theorem dX2_passTenth_56 : decode cX2_passTenth 56 = .ok (.ireturn, 1) := by decide +kernel
theorem dX2_isLikedAtChair_0 : decode cX2_isLikedAtChair 0 = .ok (.aload_n 0, 1) := by decide +kernel
theorem dX2_isLikedAtChair_1 : decode cX2_isLikedAtChair 1 = .ok (.getfield 21, 3) := by decide +kernel
theorem dX2_isLikedAtChair_4 : decode cX2_isLikedAtChair 4 = .ok (.getfield 147, 3) := by decide +kernel
theorem dX2_isLikedAtChair_7 : decode cX2_isLikedAtChair 7 = .ok (.iconst 3, 1) := by decide +kernel
theorem dX2_isLikedAtChair_8 : decode cX2_isLikedAtChair 8 = .ok (.if_icmp .ne 25, 3) := by decide +kernel
theorem dX2_isLikedAtChair_11 : decode cX2_isLikedAtChair 11 = .ok (.aload_n 0, 1) := by decide +kernel
theorem dX2_isLikedAtChair_12 : decode cX2_isLikedAtChair 12 = .ok (.getfield 42, 3) := by decide +kernel
theorem dX2_isLikedAtChair_15 : decode cX2_isLikedAtChair 15 = .ok (.ifCond .le 18, 3) := by decide +kernel
theorem dX2_isLikedAtChair_18 : decode cX2_isLikedAtChair 18 = .ok (.aload_n 0, 1) := by decide +kernel
theorem dX2_isLikedAtChair_19 : decode cX2_isLikedAtChair 19 = .ok (.getfield 21, 3) := by decide +kernel
theorem dX2_isLikedAtChair_22 : decode cX2_isLikedAtChair 22 = .ok (.getfield 150, 3) := by decide +kernel
theorem dX2_isLikedAtChair_25 : decode cX2_isLikedAtChair 25 = .ok (.aload_n 0, 1) := by decide +kernel
theorem dX2_isLikedAtChair_26 : decode cX2_isLikedAtChair 26 = .ok (.getfield 42, 3) := by decide +kernel
theorem dX2_isLikedAtChair_29 : decode cX2_isLikedAtChair 29 = .ok (.irem, 1) := by decide +kernel
theorem dX2_isLikedAtChair_30 : decode cX2_isLikedAtChair 30 = .ok (.goto 5, 3) := by decide +kernel
theorem dX2_isLikedAtChair_33 : decode cX2_isLikedAtChair 33 = .ok (.bipush (-9), 2) := by decide +kernel
theorem dX2_isLikedAtChair_35 : decode cX2_isLikedAtChair 35 = .ok (.istore_n 1, 1) := by decide +kernel
theorem dX2_isLikedAtChair_36 : decode cX2_isLikedAtChair 36 = .ok (.aload_n 0, 1) := by decide +kernel
theorem dX2_isLikedAtChair_37 : decode cX2_isLikedAtChair 37 = .ok (.iload_n 1, 1) := by decide +kernel
theorem dX2_isLikedAtChair_38 : decode cX2_isLikedAtChair 38 = .ok (.invokevirtual 79, 3) := by decide +kernel
theorem dX2_isLikedAtChair_41 : decode cX2_isLikedAtChair 41 = .ok (.ifCond .eq 26, 3) := by decide +kernel
theorem dX2_isLikedAtChair_44 : decode cX2_isLikedAtChair 44 = .ok (.aload_n 0, 1) := by decide +kernel
theorem dX2_isLikedAtChair_45 : decode cX2_isLikedAtChair 45 = .ok (.getfield 12, 3) := by decide +kernel
theorem dX2_isLikedAtChair_48 : decode cX2_isLikedAtChair 48 = .ok (.aload_n 0, 1) := by decide +kernel
theorem dX2_isLikedAtChair_49 : decode cX2_isLikedAtChair 49 = .ok (.getfield 34, 3) := by decide +kernel
theorem dX2_isLikedAtChair_52 : decode cX2_isLikedAtChair 52 = .ok (.iload_n 1, 1) := by decide +kernel
theorem dX2_isLikedAtChair_53 : decode cX2_isLikedAtChair 53 = .ok (.aaload, 1) := by decide +kernel
theorem dX2_isLikedAtChair_54 : decode cX2_isLikedAtChair 54 = .ok (.getfield 121, 3) := by decide +kernel
theorem dX2_isLikedAtChair_57 : decode cX2_isLikedAtChair 57 = .ok (.invokevirtual 93, 3) := by decide +kernel
theorem dX2_isLikedAtChair_60 : decode cX2_isLikedAtChair 60 = .ok (.ifCond .eq 7, 3) := by decide +kernel
theorem dX2_isLikedAtChair_63 : decode cX2_isLikedAtChair 63 = .ok (.iconst 1, 1) := by decide +kernel
theorem dX2_isLikedAtChair_64 : decode cX2_isLikedAtChair 64 = .ok (.goto 4, 3) := by decide +kernel
theorem dX2_isLikedAtChair_67 : decode cX2_isLikedAtChair 67 = .ok (.iconst 0, 1) := by decide +kernel
theorem dX2_isLikedAtChair_68 : decode cX2_isLikedAtChair 68 = .ok (.ireturn, 1) := by decide +kernel
theorem dX2_endRound_0 : decode cX2_endRound 0 = .ok (.aload_n 0, 1) := by decide +kernel
theorem dX2_endRound_1 : decode cX2_endRound 1 = .ok (.getfield 28, 3) := by decide +kernel
theorem dX2_endRound_4 : decode cX2_endRound 4 = .ok (.aload_n 0, 1) := by decide +kernel
theorem dX2_endRound_5 : decode cX2_endRound 5 = .ok (.invokevirtual 153, 3) := by decide +kernel
theorem dX2_endRound_8 : decode cX2_endRound 8 = .ok (.aload_n 0, 1) := by decide +kernel
theorem dX2_endRound_9 : decode cX2_endRound 9 = .ok (.invokevirtual 157, 3) := by decide +kernel
theorem dX2_endRound_12 : decode cX2_endRound 12 = .ok (.istore_n 1, 1) := by decide +kernel
theorem dX2_endRound_13 : decode cX2_endRound 13 = .ok (.aload_n 0, 1) := by decide +kernel
theorem dX2_endRound_14 : decode cX2_endRound 14 = .ok (.iload_n 1, 1) := by decide +kernel
theorem dX2_endRound_15 : decode cX2_endRound 15 = .ok (.invokevirtual 160, 3) := by decide +kernel
theorem dX2_endRound_18 : decode cX2_endRound 18 = .ok (.ifCond .eq 21, 3) := by decide +kernel
theorem dX2_endRound_21 : decode cX2_endRound 21 = .ok (.aload_n 0, 1) := by decide +kernel
theorem dX2_endRound_22 : decode cX2_endRound 22 = .ok (.getfield 12, 3) := by decide +kernel
theorem dX2_endRound_25 : decode cX2_endRound 25 = .ok (.aload_n 0, 1) := by decide +kernel
theorem dX2_endRound_26 : decode cX2_endRound 26 = .ok (.getfield 12, 3) := by decide +kernel
theorem dX2_endRound_29 : decode cX2_endRound 29 = .ok (.aload_n 0, 1) := by decide +kernel
theorem dX2_endRound_30 : decode cX2_endRound 30 = .ok (.getfield 46, 3) := by decide +kernel
theorem dX2_endRound_33 : decode cX2_endRound 33 = .ok (.invokevirtual 163, 3) := by decide +kernel
theorem dX2_endRound_36 : decode cX2_endRound 36 = .ok (.invokevirtual 167, 3) := by decide +kernel
theorem dX2_endRound_39 : decode cX2_endRound 39 = .ok (.aload_n 0, 1) := by decide +kernel
theorem dX2_endRound_40 : decode cX2_endRound 40 = .ok (.iload_n 1, 1) := by decide +kernel
theorem dX2_endRound_41 : decode cX2_endRound 41 = .ok (.invokevirtual 170, 3) := by decide +kernel
theorem dX2_endRound_44 : decode cX2_endRound 44 = .ok (.ifCond .eq 27, 3) := by decide +kernel
theorem dX2_endRound_47 : decode cX2_endRound 47 = .ok (.aload_n 0, 1) := by decide +kernel
theorem dX2_endRound_48 : decode cX2_endRound 48 = .ok (.getfield 34, 3) := by decide +kernel
theorem dX2_endRound_51 : decode cX2_endRound 51 = .ok (.iload_n 1, 1) := by decide +kernel
theorem dX2_endRound_52 : decode cX2_endRound 52 = .ok (.aaload, 1) := by decide +kernel
theorem dX2_endRound_53 : decode cX2_endRound 53 = .ok (.iconst 0, 1) := by decide +kernel
theorem dX2_endRound_54 : decode cX2_endRound 54 = .ok (.putfield 76, 3) := by decide +kernel
theorem dX2_endRound_57 : decode cX2_endRound 57 = .ok (.aload_n 0, 1) := by decide +kernel
theorem dX2_endRound_58 : decode cX2_endRound 58 = .ok (.aload_n 0, 1) := by decide +kernel
theorem dX2_endRound_59 : decode cX2_endRound 59 = .ok (.getfield 34, 3) := by decide +kernel
theorem dX2_endRound_62 : decode cX2_endRound 62 = .ok (.iload_n 1, 1) := by decide +kernel
theorem dX2_endRound_63 : decode cX2_endRound 63 = .ok (.aaload, 1) := by decide +kernel
theorem dX2_endRound_64 : decode cX2_endRound 64 = .ok (.getfield 121, 3) := by decide +kernel
theorem dX2_endRound_67 : decode cX2_endRound 67 = .ok (.iconst 0, 1) := by decide +kernel
theorem dX2_endRound_68 : decode cX2_endRound 68 = .ok (.invokevirtual 111, 3) := by decide +kernel
theorem dX2_endRound_71 : decode cX2_endRound 71 = .ok (.aload_n 0, 1) := by decide +kernel
theorem dX2_endRound_72 : decode cX2_endRound 72 = .ok (.iconst 0, 1) := by decide +kernel
theorem dX2_endRound_73 : decode cX2_endRound 73 = .ok (.putfield 49, 3) := by decide +kernel
theorem dX2_endRound_76 : decode cX2_endRound 76 = .ok (.aload_n 0, 1) := by decide +kernel
theorem dX2_endRound_77 : decode cX2_endRound 77 = .ok (.dup, 1) := by decide +kernel
theorem dX2_endRound_78 : decode cX2_endRound 78 = .ok (.getfield 52, 3) := by decide +kernel
theorem dX2_endRound_81 : decode cX2_endRound 81 = .ok (.iconst 1, 1) := by decide +kernel
theorem dX2_endRound_82 : decode cX2_endRound 82 = .ok (.iadd, 1) := by decide +kernel
theorem dX2_endRound_83 : decode cX2_endRound 83 = .ok (.putfield 52, 3) := by decide +kernel
theorem dX2_endRound_86 : decode cX2_endRound 86 = .ok (.aload_n 0, 1) := by decide +kernel
theorem dX2_endRound_87 : decode cX2_endRound 87 = .ok (.iload_n 1, 1) := by decide +kernel
theorem dX2_endRound_88 : decode cX2_endRound 88 = .ok (.ifCond .lt 11, 3) := by decide +kernel
theorem dX2_endRound_91 : decode cX2_endRound 91 = .ok (.aload_n 0, 1) := by decide +kernel
theorem dX2_endRound_92 : decode cX2_endRound 92 = .ok (.invokevirtual 83, 3) := by decide +kernel
theorem dX2_endRound_95 : decode cX2_endRound 95 = .ok (.iconst 1, 1) := by decide +kernel
theorem dX2_endRound_96 : decode cX2_endRound 96 = .ok (.if_icmp .gt 7, 3) := by decide +kernel
theorem dX2_endRound_99 : decode cX2_endRound 99 = .ok (.iconst 1, 1) := by decide +kernel
theorem dX2_endRound_100 : decode cX2_endRound 100 = .ok (.goto 4, 3) := by decide +kernel
theorem dX2_endRound_103 : decode cX2_endRound 103 = .ok (.iconst 0, 1) := by decide +kernel
theorem dX2_endRound_104 : decode cX2_endRound 104 = .ok (.putfield 55, 3) := by decide +kernel
theorem dX2_endRound_107 : decode cX2_endRound 107 = .ok (.iload_n 1, 1) := by decide +kernel
theorem dX2_endRound_108 : decode cX2_endRound 108 = .ok (.ireturn, 1) := by decide +kernel
theorem dX2_losesChair_0 : decode cX2_losesChair 0 = .ok (.iload_n 1, 1) := by decide +kernel
theorem dX2_losesChair_1 : decode cX2_losesChair 1 = .ok (.ifCond .lt 18, 3) := by decide +kernel
theorem dX2_losesChair_4 : decode cX2_losesChair 4 = .ok (.aload_n 0, 1) := by decide +kernel
theorem dX2_losesChair_5 : decode cX2_losesChair 5 = .ok (.getfield 12, 3) := by decide +kernel
theorem dX2_losesChair_8 : decode cX2_losesChair 8 = .ok (.getfield 87, 3) := by decide +kernel
theorem dX2_losesChair_11 : decode cX2_losesChair 11 = .ok (.iconst 1, 1) := by decide +kernel
theorem dX2_losesChair_12 : decode cX2_losesChair 12 = .ok (.if_icmp .le 7, 3) := by decide +kernel
theorem dX2_losesChair_15 : decode cX2_losesChair 15 = .ok (.iconst 1, 1) := by decide +kernel
theorem dX2_losesChair_16 : decode cX2_losesChair 16 = .ok (.goto 4, 3) := by decide +kernel
theorem dX2_losesChair_19 : decode cX2_losesChair 19 = .ok (.iconst 0, 1) := by decide +kernel
theorem dX2_losesChair_20 : decode cX2_losesChair 20 = .ok (.ireturn, 1) := by decide +kernel
theorem dX2_whoGoes_0 : decode cX2_whoGoes 0 = .ok (.bipush (-9), 2) := by decide +kernel
theorem dX2_whoGoes_2 : decode cX2_whoGoes 2 = .ok (.istore_n 1, 1) := by decide +kernel
theorem dX2_whoGoes_3 : decode cX2_whoGoes 3 = .ok (.iconst (-1), 1) := by decide +kernel
theorem dX2_whoGoes_4 : decode cX2_whoGoes 4 = .ok (.istore_n 2, 1) := by decide +kernel
theorem dX2_whoGoes_5 : decode cX2_whoGoes 5 = .ok (.iconst 0, 1) := by decide +kernel
theorem dX2_whoGoes_6 : decode cX2_whoGoes 6 = .ok (.istore_n 3, 1) := by decide +kernel
theorem dX2_whoGoes_7 : decode cX2_whoGoes 7 = .ok (.iload_n 3, 1) := by decide +kernel
theorem dX2_whoGoes_8 : decode cX2_whoGoes 8 = .ok (.aload_n 0, 1) := by decide +kernel
theorem dX2_whoGoes_9 : decode cX2_whoGoes 9 = .ok (.getfield 42, 3) := by decide +kernel
theorem dX2_whoGoes_12 : decode cX2_whoGoes 12 = .ok (.if_icmp .ge 57, 3) := by decide +kernel
theorem dX2_whoGoes_15 : decode cX2_whoGoes 15 = .ok (.aload_n 0, 1) := by decide +kernel
theorem dX2_whoGoes_16 : decode cX2_whoGoes 16 = .ok (.iload_n 3, 1) := by decide +kernel
theorem dX2_whoGoes_17 : decode cX2_whoGoes 17 = .ok (.invokevirtual 79, 3) := by decide +kernel
theorem dX2_whoGoes_20 : decode cX2_whoGoes 20 = .ok (.ifCond .eq 43, 3) := by decide +kernel
theorem dX2_whoGoes_23 : decode cX2_whoGoes 23 = .ok (.aload_n 0, 1) := by decide +kernel
theorem dX2_whoGoes_24 : decode cX2_whoGoes 24 = .ok (.getfield 28, 3) := by decide +kernel
theorem dX2_whoGoes_27 : decode cX2_whoGoes 27 = .ok (.iload_n 3, 1) := by decide +kernel
theorem dX2_whoGoes_28 : decode cX2_whoGoes 28 = .ok (.invokevirtual 173, 3) := by decide +kernel
theorem dX2_whoGoes_31 : decode cX2_whoGoes 31 = .ok (.ifCond .ne 32, 3) := by decide +kernel
theorem dX2_whoGoes_34 : decode cX2_whoGoes 34 = .ok (.aload_n 0, 1) := by decide +kernel
theorem dX2_whoGoes_35 : decode cX2_whoGoes 35 = .ok (.getfield 12, 3) := by decide +kernel
theorem dX2_whoGoes_38 : decode cX2_whoGoes 38 = .ok (.aload_n 0, 1) := by decide +kernel
theorem dX2_whoGoes_39 : decode cX2_whoGoes 39 = .ok (.getfield 34, 3) := by decide +kernel
theorem dX2_whoGoes_42 : decode cX2_whoGoes 42 = .ok (.iload_n 3, 1) := by decide +kernel
theorem dX2_whoGoes_43 : decode cX2_whoGoes 43 = .ok (.aaload, 1) := by decide +kernel
theorem dX2_whoGoes_44 : decode cX2_whoGoes 44 = .ok (.getfield 121, 3) := by decide +kernel
theorem dX2_whoGoes_47 : decode cX2_whoGoes 47 = .ok (.invokevirtual 176, 3) := by decide +kernel
theorem dX2_whoGoes_50 : decode cX2_whoGoes 50 = .ok (.istore 4, 2) := by decide +kernel
theorem dX2_whoGoes_52 : decode cX2_whoGoes 52 = .ok (.iload 4, 2) := by decide +kernel
theorem dX2_whoGoes_54 : decode cX2_whoGoes 54 = .ok (.iload_n 2, 1) := by decide +kernel
theorem dX2_whoGoes_55 : decode cX2_whoGoes 55 = .ok (.if_icmp .lt 8, 3) := by decide +kernel
theorem dX2_whoGoes_58 : decode cX2_whoGoes 58 = .ok (.iload 4, 2) := by decide +kernel
theorem dX2_whoGoes_60 : decode cX2_whoGoes 60 = .ok (.istore_n 2, 1) := by decide +kernel
theorem dX2_whoGoes_61 : decode cX2_whoGoes 61 = .ok (.iload_n 3, 1) := by decide +kernel
theorem dX2_whoGoes_62 : decode cX2_whoGoes 62 = .ok (.istore_n 1, 1) := by decide +kernel
theorem dX2_whoGoes_63 : decode cX2_whoGoes 63 = .ok (.iinc 3 1, 3) := by decide +kernel
theorem dX2_whoGoes_66 : decode cX2_whoGoes 66 = .ok (.goto (-59), 3) := by decide +kernel
theorem dX2_whoGoes_69 : decode cX2_whoGoes 69 = .ok (.iload_n 1, 1) := by decide +kernel
theorem dX2_whoGoes_70 : decode cX2_whoGoes 70 = .ok (.ireturn, 1) := by decide +kernel
theorem dX2_winner_0 : decode cX2_winner 0 = .ok (.bipush (-9), 2) := by decide +kernel
theorem dX2_winner_2 : decode cX2_winner 2 = .ok (.istore_n 1, 1) := by decide +kernel
theorem dX2_winner_3 : decode cX2_winner 3 = .ok (.iconst 0, 1) := by decide +kernel
theorem dX2_winner_4 : decode cX2_winner 4 = .ok (.istore_n 2, 1) := by decide +kernel
theorem dX2_winner_5 : decode cX2_winner 5 = .ok (.iload_n 2, 1) := by decide +kernel
theorem dX2_winner_6 : decode cX2_winner 6 = .ok (.aload_n 0, 1) := by decide +kernel
theorem dX2_winner_7 : decode cX2_winner 7 = .ok (.getfield 42, 3) := by decide +kernel
theorem dX2_winner_10 : decode cX2_winner 10 = .ok (.if_icmp .ge 19, 3) := by decide +kernel
theorem dX2_winner_13 : decode cX2_winner 13 = .ok (.aload_n 0, 1) := by decide +kernel
theorem dX2_winner_14 : decode cX2_winner 14 = .ok (.iload_n 2, 1) := by decide +kernel
theorem dX2_winner_15 : decode cX2_winner 15 = .ok (.invokevirtual 79, 3) := by decide +kernel
theorem dX2_winner_18 : decode cX2_winner 18 = .ok (.ifCond .eq 5, 3) := by decide +kernel
theorem dX2_winner_21 : decode cX2_winner 21 = .ok (.iload_n 2, 1) := by decide +kernel
theorem dX2_winner_22 : decode cX2_winner 22 = .ok (.istore_n 1, 1) := by decide +kernel
theorem dX2_winner_23 : decode cX2_winner 23 = .ok (.iinc 2 1, 3) := by decide +kernel
theorem dX2_winner_26 : decode cX2_winner 26 = .ok (.goto (-21), 3) := by decide +kernel
theorem dX2_winner_29 : decode cX2_winner 29 = .ok (.aload_n 0, 1) := by decide +kernel
theorem dX2_winner_30 : decode cX2_winner 30 = .ok (.invokevirtual 83, 3) := by decide +kernel
theorem dX2_winner_33 : decode cX2_winner 33 = .ok (.iconst 1, 1) := by decide +kernel
theorem dX2_winner_34 : decode cX2_winner 34 = .ok (.if_icmp .ne 7, 3) := by decide +kernel
theorem dX2_winner_37 : decode cX2_winner 37 = .ok (.iload_n 1, 1) := by decide +kernel
theorem dX2_winner_38 : decode cX2_winner 38 = .ok (.goto 5, 3) := by decide +kernel
theorem dX2_winner_41 : decode cX2_winner 41 = .ok (.bipush (-9), 2) := by decide +kernel
theorem dX2_winner_43 : decode cX2_winner 43 = .ok (.ireturn, 1) := by decide +kernel
theorem dX3_init_0 : decode cX3_init 0 = .ok (.aload_n 0, 1) := by decide +kernel
theorem dX3_init_1 : decode cX3_init 1 = .ok (.invokespecial 3, 3) := by decide +kernel
theorem dX3_init_4 : decode cX3_init 4 = .ok (.aload_n 0, 1) := by decide +kernel
theorem dX3_init_5 : decode cX3_init 5 = .ok (.iconst 0, 1) := by decide +kernel
theorem dX3_init_6 : decode cX3_init 6 = .ok (.putfield 11, 3) := by decide +kernel
theorem dX3_init_9 : decode cX3_init 9 = .ok (.aload_n 0, 1) := by decide +kernel
theorem dX3_init_10 : decode cX3_init 10 = .ok (.bipush 10, 2) := by decide +kernel
theorem dX3_init_12 : decode cX3_init 12 = .ok (.putfield 15, 3) := by decide +kernel
theorem dX3_init_15 : decode cX3_init 15 = .ok (.aload_n 0, 1) := by decide +kernel
theorem dX3_init_16 : decode cX3_init 16 = .ok (.iconst 1, 1) := by decide +kernel
theorem dX3_init_17 : decode cX3_init 17 = .ok (.putfield 18, 3) := by decide +kernel
theorem dX3_init_20 : decode cX3_init 20 = .ok (.return_, 1) := by decide +kernel
theorem dX3_become_0 : decode cX3_become 0 = .ok (.aload_n 0, 1) := by decide +kernel
theorem dX3_become_1 : decode cX3_become 1 = .ok (.aload_n 1, 1) := by decide +kernel
theorem dX3_become_2 : decode cX3_become 2 = .ok (.getfield 11, 3) := by decide +kernel
theorem dX3_become_5 : decode cX3_become 5 = .ok (.putfield 11, 3) := by decide +kernel
theorem dX3_become_8 : decode cX3_become 8 = .ok (.aload_n 0, 1) := by decide +kernel
theorem dX3_become_9 : decode cX3_become 9 = .ok (.aload_n 1, 1) := by decide +kernel
theorem dX3_become_10 : decode cX3_become 10 = .ok (.getfield 15, 3) := by decide +kernel
theorem dX3_become_13 : decode cX3_become 13 = .ok (.putfield 15, 3) := by decide +kernel
theorem dX3_become_16 : decode cX3_become 16 = .ok (.aload_n 0, 1) := by decide +kernel
theorem dX3_become_17 : decode cX3_become 17 = .ok (.aload_n 1, 1) := by decide +kernel
theorem dX3_become_18 : decode cX3_become 18 = .ok (.getfield 18, 3) := by decide +kernel
theorem dX3_become_21 : decode cX3_become 21 = .ok (.putfield 18, 3) := by decide +kernel
theorem dX3_become_24 : decode cX3_become 24 = .ok (.return_, 1) := by decide +kernel
theorem dX3_whyNot_0 : decode cX3_whyNot 0 = .ok (.iload_n 1, 1) := by decide +kernel
theorem dX3_whyNot_1 : decode cX3_whyNot 1 = .ok (.ifCond .lt 8, 3) := by decide +kernel
theorem dX3_whyNot_4 : decode cX3_whyNot 4 = .ok (.iload_n 1, 1) := by decide +kernel
theorem dX3_whyNot_5 : decode cX3_whyNot 5 = .ok (.iconst 5, 1) := by decide +kernel
theorem dX3_whyNot_6 : decode cX3_whyNot 6 = .ok (.if_icmp .lt 5, 3) := by decide +kernel
theorem dX3_whyNot_9 : decode cX3_whyNot 9 = .ok (.iconst 1, 1) := by decide +kernel
theorem dX3_whyNot_10 : decode cX3_whyNot 10 = .ok (.ireturn, 1) := by decide +kernel
theorem dX3_whyNot_11 : decode cX3_whyNot 11 = .ok (.iload_n 2, 1) := by decide +kernel
theorem dX3_whyNot_12 : decode cX3_whyNot 12 = .ok (.iconst 1, 1) := by decide +kernel
theorem dX3_whyNot_13 : decode cX3_whyNot 13 = .ok (.bipush 99, 2) := by decide +kernel
theorem dX3_whyNot_15 : decode cX3_whyNot 15 = .ok (.invokestatic 21, 3) := by decide +kernel
theorem dX3_whyNot_18 : decode cX3_whyNot 18 = .ok (.ireturn, 1) := by decide +kernel
theorem dX3_drawAgain_0 : decode cX3_drawAgain 0 = .ok (.aload_n 0, 1) := by decide +kernel
theorem dX3_drawAgain_1 : decode cX3_drawAgain 1 = .ok (.aload_n 0, 1) := by decide +kernel
theorem dX3_drawAgain_2 : decode cX3_drawAgain 2 = .ok (.getfield 18, 3) := by decide +kernel
theorem dX3_drawAgain_5 : decode cX3_drawAgain 5 = .ok (.ldc 25, 2) := by decide +kernel
theorem dX3_drawAgain_7 : decode cX3_drawAgain 7 = .ok (.imul, 1) := by decide +kernel
theorem dX3_drawAgain_8 : decode cX3_drawAgain 8 = .ok (.sipush 12345, 3) := by decide +kernel
theorem dX3_drawAgain_11 : decode cX3_drawAgain 11 = .ok (.iadd, 1) := by decide +kernel
theorem dX3_drawAgain_12 : decode cX3_drawAgain 12 = .ok (.putfield 18, 3) := by decide +kernel
theorem dX3_drawAgain_15 : decode cX3_drawAgain 15 = .ok (.aload_n 0, 1) := by decide +kernel
theorem dX3_drawAgain_16 : decode cX3_drawAgain 16 = .ok (.getfield 18, 3) := by decide +kernel
theorem dX3_drawAgain_19 : decode cX3_drawAgain 19 = .ok (.ldc 26, 2) := by decide +kernel
theorem dX3_drawAgain_21 : decode cX3_drawAgain 21 = .ok (.iand, 1) := by decide +kernel
theorem dX3_drawAgain_22 : decode cX3_drawAgain 22 = .ok (.ldc 27, 2) := by decide +kernel
theorem dX3_drawAgain_24 : decode cX3_drawAgain 24 = .ok (.idiv, 1) := by decide +kernel
theorem dX3_drawAgain_25 : decode cX3_drawAgain 25 = .ok (.bipush 100, 2) := by decide +kernel
theorem dX3_drawAgain_27 : decode cX3_drawAgain 27 = .ok (.irem, 1) := by decide +kernel
theorem dX3_drawAgain_28 : decode cX3_drawAgain 28 = .ok (.ireturn, 1) := by decide +kernel
theorem dX3_stopsIn_0 : decode cX3_stopsIn 0 = .ok (.aload_n 0, 1) := by decide +kernel
theorem dX3_stopsIn_1 : decode cX3_stopsIn 1 = .ok (.getfield 11, 3) := by decide +kernel
theorem dX3_stopsIn_4 : decode cX3_stopsIn 4 = .ok (.tableswitch 91 0 3 #[32, 46, 67, 89], 32) := by decide +kernel
theorem dX3_stopsIn_36 : decode cX3_stopsIn 36 = .ok (.iload_n 2, 1) := by decide +kernel
theorem dX3_stopsIn_37 : decode cX3_stopsIn 37 = .ok (.aload_n 0, 1) := by decide +kernel
theorem dX3_stopsIn_38 : decode cX3_stopsIn 38 = .ok (.getfield 15, 3) := by decide +kernel
theorem dX3_stopsIn_41 : decode cX3_stopsIn 41 = .ok (.if_icmp .ge 7, 3) := by decide +kernel
theorem dX3_stopsIn_44 : decode cX3_stopsIn 44 = .ok (.iconst 1, 1) := by decide +kernel
theorem dX3_stopsIn_45 : decode cX3_stopsIn 45 = .ok (.goto 4, 3) := by decide +kernel
theorem dX3_stopsIn_48 : decode cX3_stopsIn 48 = .ok (.iconst 0, 1) := by decide +kernel
theorem dX3_stopsIn_49 : decode cX3_stopsIn 49 = .ok (.ireturn, 1) := by decide +kernel
theorem dX3_stopsIn_50 : decode cX3_stopsIn 50 = .ok (.iload_n 1, 1) := by decide +kernel
theorem dX3_stopsIn_51 : decode cX3_stopsIn 51 = .ok (.bipush 8, 2) := by decide +kernel
theorem dX3_stopsIn_53 : decode cX3_stopsIn 53 = .ok (.irem, 1) := by decide +kernel
theorem dX3_stopsIn_54 : decode cX3_stopsIn 54 = .ok (.ifCond .ne 15, 3) := by decide +kernel
theorem dX3_stopsIn_57 : decode cX3_stopsIn 57 = .ok (.iload_n 2, 1) := by decide +kernel
theorem dX3_stopsIn_58 : decode cX3_stopsIn 58 = .ok (.aload_n 0, 1) := by decide +kernel
theorem dX3_stopsIn_59 : decode cX3_stopsIn 59 = .ok (.getfield 15, 3) := by decide +kernel
theorem dX3_stopsIn_62 : decode cX3_stopsIn 62 = .ok (.if_icmp .ge 7, 3) := by decide +kernel
theorem dX3_stopsIn_65 : decode cX3_stopsIn 65 = .ok (.iconst 1, 1) := by decide +kernel
theorem dX3_stopsIn_66 : decode cX3_stopsIn 66 = .ok (.goto 4, 3) := by decide +kernel
theorem dX3_stopsIn_69 : decode cX3_stopsIn 69 = .ok (.iconst 0, 1) := by decide +kernel
theorem dX3_stopsIn_70 : decode cX3_stopsIn 70 = .ok (.ireturn, 1) := by decide +kernel
theorem dX3_stopsIn_71 : decode cX3_stopsIn 71 = .ok (.iload_n 1, 1) := by decide +kernel
theorem dX3_stopsIn_72 : decode cX3_stopsIn 72 = .ok (.aload_n 0, 1) := by decide +kernel
theorem dX3_stopsIn_73 : decode cX3_stopsIn 73 = .ok (.getfield 15, 3) := by decide +kernel
theorem dX3_stopsIn_76 : decode cX3_stopsIn 76 = .ok (.if_icmp .lt 15, 3) := by decide +kernel
theorem dX3_stopsIn_79 : decode cX3_stopsIn 79 = .ok (.iload_n 2, 1) := by decide +kernel
theorem dX3_stopsIn_80 : decode cX3_stopsIn 80 = .ok (.aload_n 0, 1) := by decide +kernel
theorem dX3_stopsIn_81 : decode cX3_stopsIn 81 = .ok (.getfield 15, 3) := by decide +kernel
theorem dX3_stopsIn_84 : decode cX3_stopsIn 84 = .ok (.if_icmp .ge 7, 3) := by decide +kernel
theorem dX3_stopsIn_87 : decode cX3_stopsIn 87 = .ok (.iconst 1, 1) := by decide +kernel
theorem dX3_stopsIn_88 : decode cX3_stopsIn 88 = .ok (.goto 4, 3) := by decide +kernel
theorem dX3_stopsIn_91 : decode cX3_stopsIn 91 = .ok (.iconst 0, 1) := by decide +kernel
theorem dX3_stopsIn_92 : decode cX3_stopsIn 92 = .ok (.ireturn, 1) := by decide +kernel
theorem dX3_stopsIn_93 : decode cX3_stopsIn 93 = .ok (.iload_n 3, 1) := by decide +kernel
theorem dX3_stopsIn_94 : decode cX3_stopsIn 94 = .ok (.ireturn, 1) := by decide +kernel
theorem dX3_stopsIn_95 : decode cX3_stopsIn 95 = .ok (.iload_n 1, 1) := by decide +kernel
theorem dX3_stopsIn_96 : decode cX3_stopsIn 96 = .ok (.aload_n 0, 1) := by decide +kernel
theorem dX3_stopsIn_97 : decode cX3_stopsIn 97 = .ok (.getfield 15, 3) := by decide +kernel
theorem dX3_stopsIn_100 : decode cX3_stopsIn 100 = .ok (.if_icmp .ne 7, 3) := by decide +kernel
theorem dX3_stopsIn_103 : decode cX3_stopsIn 103 = .ok (.iconst 1, 1) := by decide +kernel
theorem dX3_stopsIn_104 : decode cX3_stopsIn 104 = .ok (.goto 4, 3) := by decide +kernel
theorem dX3_stopsIn_107 : decode cX3_stopsIn 107 = .ok (.iconst 0, 1) := by decide +kernel
theorem dX3_stopsIn_108 : decode cX3_stopsIn 108 = .ok (.ireturn, 1) := by decide +kernel
theorem dX3_couldStop_0 : decode cX3_couldStop 0 = .ok (.iload_n 1, 1) := by decide +kernel
theorem dX3_couldStop_1 : decode cX3_couldStop 1 = .ok (.tableswitch 76 0 3 #[31, 33, 53, 74], 31) := by decide +kernel
theorem dX3_couldStop_32 : decode cX3_couldStop 32 = .ok (.iconst 1, 1) := by decide +kernel
theorem dX3_couldStop_33 : decode cX3_couldStop 33 = .ok (.ireturn, 1) := by decide +kernel
theorem dX3_couldStop_34 : decode cX3_couldStop 34 = .ok (.iload_n 2, 1) := by decide +kernel
theorem dX3_couldStop_35 : decode cX3_couldStop 35 = .ok (.bipush 8, 2) := by decide +kernel
theorem dX3_couldStop_37 : decode cX3_couldStop 37 = .ok (.irem, 1) := by decide +kernel
theorem dX3_couldStop_38 : decode cX3_couldStop 38 = .ok (.ifCond .eq 10, 3) := by decide +kernel
theorem dX3_couldStop_41 : decode cX3_couldStop 41 = .ok (.iload_n 2, 1) := by decide +kernel
theorem dX3_couldStop_42 : decode cX3_couldStop 42 = .ok (.sipush 300, 3) := by decide +kernel
theorem dX3_couldStop_45 : decode cX3_couldStop 45 = .ok (.if_icmp .ne 7, 3) := by decide +kernel
theorem dX3_couldStop_48 : decode cX3_couldStop 48 = .ok (.iconst 1, 1) := by decide +kernel
theorem dX3_couldStop_49 : decode cX3_couldStop 49 = .ok (.goto 4, 3) := by decide +kernel
theorem dX3_couldStop_52 : decode cX3_couldStop 52 = .ok (.iconst 0, 1) := by decide +kernel
theorem dX3_couldStop_53 : decode cX3_couldStop 53 = .ok (.ireturn, 1) := by decide +kernel
theorem dX3_couldStop_54 : decode cX3_couldStop 54 = .ok (.iload_n 2, 1) := by decide +kernel
theorem dX3_couldStop_55 : decode cX3_couldStop 55 = .ok (.aload_n 0, 1) := by decide +kernel
theorem dX3_couldStop_56 : decode cX3_couldStop 56 = .ok (.getfield 15, 3) := by decide +kernel
theorem dX3_couldStop_59 : decode cX3_couldStop 59 = .ok (.if_icmp .ge 10, 3) := by decide +kernel
theorem dX3_couldStop_62 : decode cX3_couldStop 62 = .ok (.iload_n 2, 1) := by decide +kernel
theorem dX3_couldStop_63 : decode cX3_couldStop 63 = .ok (.sipush 300, 3) := by decide +kernel
theorem dX3_couldStop_66 : decode cX3_couldStop 66 = .ok (.if_icmp .ne 7, 3) := by decide +kernel
theorem dX3_couldStop_69 : decode cX3_couldStop 69 = .ok (.iconst 1, 1) := by decide +kernel
theorem dX3_couldStop_70 : decode cX3_couldStop 70 = .ok (.goto 4, 3) := by decide +kernel
theorem dX3_couldStop_73 : decode cX3_couldStop 73 = .ok (.iconst 0, 1) := by decide +kernel
theorem dX3_couldStop_74 : decode cX3_couldStop 74 = .ok (.ireturn, 1) := by decide +kernel
theorem dX3_couldStop_75 : decode cX3_couldStop 75 = .ok (.iconst 1, 1) := by decide +kernel
theorem dX3_couldStop_76 : decode cX3_couldStop 76 = .ok (.ireturn, 1) := by decide +kernel
theorem dX3_couldStop_77 : decode cX3_couldStop 77 = .ok (.iload_n 2, 1) := by decide +kernel
theorem dX3_couldStop_78 : decode cX3_couldStop 78 = .ok (.aload_n 0, 1) := by decide +kernel
theorem dX3_couldStop_79 : decode cX3_couldStop 79 = .ok (.getfield 15, 3) := by decide +kernel
theorem dX3_couldStop_82 : decode cX3_couldStop 82 = .ok (.if_icmp .ne 7, 3) := by decide +kernel
theorem dX3_couldStop_85 : decode cX3_couldStop 85 = .ok (.iconst 1, 1) := by decide +kernel
theorem dX3_couldStop_86 : decode cX3_couldStop 86 = .ok (.goto 4, 3) := by decide +kernel
theorem dX3_couldStop_89 : decode cX3_couldStop 89 = .ok (.iconst 0, 1) := by decide +kernel
theorem dX3_couldStop_90 : decode cX3_couldStop 90 = .ok (.ireturn, 1) := by decide +kernel
theorem dX4_init_0 : decode cX4_init 0 = .ok (.aload_n 0, 1) := by decide +kernel
theorem dX4_init_1 : decode cX4_init 1 = .ok (.invokespecial 3, 3) := by decide +kernel
theorem dX4_init_4 : decode cX4_init 4 = .ok (.aload_n 0, 1) := by decide +kernel
theorem dX4_init_5 : decode cX4_init 5 = .ok (.bipush 24, 2) := by decide +kernel
theorem dX4_init_7 : decode cX4_init 7 = .ok (.putfield 9, 3) := by decide +kernel
theorem dX4_init_10 : decode cX4_init 10 = .ok (.aload_n 0, 1) := by decide +kernel
theorem dX4_init_11 : decode cX4_init 11 = .ok (.iconst 0, 1) := by decide +kernel
theorem dX4_init_12 : decode cX4_init 12 = .ok (.putfield 15, 3) := by decide +kernel
theorem dX4_init_15 : decode cX4_init 15 = .ok (.aload_n 0, 1) := by decide +kernel
theorem dX4_init_16 : decode cX4_init 16 = .ok (.bipush 11, 2) := by decide +kernel
theorem dX4_init_18 : decode cX4_init 18 = .ok (.newarray .int, 2) := by decide +kernel
theorem dX4_init_20 : decode cX4_init 20 = .ok (.putfield 18, 3) := by decide +kernel
theorem dX4_init_23 : decode cX4_init 23 = .ok (.aload_n 0, 1) := by decide +kernel
theorem dX4_init_24 : decode cX4_init 24 = .ok (.bipush 60, 2) := by decide +kernel
theorem dX4_init_26 : decode cX4_init 26 = .ok (.newarray .boolean, 2) := by decide +kernel
theorem dX4_init_28 : decode cX4_init 28 = .ok (.putfield 22, 3) := by decide +kernel
theorem dX4_init_31 : decode cX4_init 31 = .ok (.return_, 1) := by decide +kernel
theorem dX4_become_0 : decode cX4_become 0 = .ok (.aload_n 0, 1) := by decide +kernel
theorem dX4_become_1 : decode cX4_become 1 = .ok (.aload_n 1, 1) := by decide +kernel
theorem dX4_become_2 : decode cX4_become 2 = .ok (.getfield 9, 3) := by decide +kernel
theorem dX4_become_5 : decode cX4_become 5 = .ok (.putfield 9, 3) := by decide +kernel
theorem dX4_become_8 : decode cX4_become 8 = .ok (.aload_n 0, 1) := by decide +kernel
theorem dX4_become_9 : decode cX4_become 9 = .ok (.aload_n 1, 1) := by decide +kernel
theorem dX4_become_10 : decode cX4_become 10 = .ok (.getfield 15, 3) := by decide +kernel
theorem dX4_become_13 : decode cX4_become 13 = .ok (.putfield 15, 3) := by decide +kernel
theorem dX4_become_16 : decode cX4_become 16 = .ok (.aload_n 1, 1) := by decide +kernel
theorem dX4_become_17 : decode cX4_become 17 = .ok (.getfield 18, 3) := by decide +kernel
theorem dX4_become_20 : decode cX4_become 20 = .ok (.iconst 0, 1) := by decide +kernel
theorem dX4_become_21 : decode cX4_become 21 = .ok (.aload_n 0, 1) := by decide +kernel
theorem dX4_become_22 : decode cX4_become 22 = .ok (.getfield 18, 3) := by decide +kernel
theorem dX4_become_25 : decode cX4_become 25 = .ok (.iconst 0, 1) := by decide +kernel
theorem dX4_become_26 : decode cX4_become 26 = .ok (.bipush 11, 2) := by decide +kernel
theorem dX4_become_28 : decode cX4_become 28 = .ok (.invokestatic 26, 3) := by decide +kernel
theorem dX4_become_31 : decode cX4_become 31 = .ok (.aload_n 1, 1) := by decide +kernel
theorem dX4_become_32 : decode cX4_become 32 = .ok (.getfield 22, 3) := by decide +kernel
theorem dX4_become_35 : decode cX4_become 35 = .ok (.iconst 0, 1) := by decide +kernel
theorem dX4_become_36 : decode cX4_become 36 = .ok (.aload_n 0, 1) := by decide +kernel
theorem dX4_become_37 : decode cX4_become 37 = .ok (.getfield 22, 3) := by decide +kernel
theorem dX4_become_40 : decode cX4_become 40 = .ok (.iconst 0, 1) := by decide +kernel
theorem dX4_become_41 : decode cX4_become 41 = .ok (.bipush 60, 2) := by decide +kernel
theorem dX4_become_43 : decode cX4_become 43 = .ok (.invokestatic 26, 3) := by decide +kernel
theorem dX4_become_46 : decode cX4_become 46 = .ok (.return_, 1) := by decide +kernel
theorem dX4_isPlace_0 : decode cX4_isPlace 0 = .ok (.iload_n 1, 1) := by decide +kernel
theorem dX4_isPlace_1 : decode cX4_isPlace 1 = .ok (.ifCond .lt 15, 3) := by decide +kernel
theorem dX4_isPlace_4 : decode cX4_isPlace 4 = .ok (.iload_n 1, 1) := by decide +kernel
theorem dX4_isPlace_5 : decode cX4_isPlace 5 = .ok (.aload_n 0, 1) := by decide +kernel
theorem dX4_isPlace_6 : decode cX4_isPlace 6 = .ok (.getfield 9, 3) := by decide +kernel
theorem dX4_isPlace_9 : decode cX4_isPlace 9 = .ok (.if_icmp .ge 7, 3) := by decide +kernel
theorem dX4_isPlace_12 : decode cX4_isPlace 12 = .ok (.iconst 1, 1) := by decide +kernel
theorem dX4_isPlace_13 : decode cX4_isPlace 13 = .ok (.goto 4, 3) := by decide +kernel
theorem dX4_isPlace_16 : decode cX4_isPlace 16 = .ok (.iconst 0, 1) := by decide +kernel
theorem dX4_isPlace_17 : decode cX4_isPlace 17 = .ok (.ireturn, 1) := by decide +kernel
theorem dX4_hasChair_0 : decode cX4_hasChair 0 = .ok (.iload_n 1, 1) := by decide +kernel
theorem dX4_hasChair_1 : decode cX4_hasChair 1 = .ok (.ifCond .lt 22, 3) := by decide +kernel
theorem dX4_hasChair_4 : decode cX4_hasChair 4 = .ok (.iload_n 1, 1) := by decide +kernel
theorem dX4_hasChair_5 : decode cX4_hasChair 5 = .ok (.bipush 60, 2) := by decide +kernel
theorem dX4_hasChair_7 : decode cX4_hasChair 7 = .ok (.if_icmp .ge 16, 3) := by decide +kernel
theorem dX4_hasChair_10 : decode cX4_hasChair 10 = .ok (.aload_n 0, 1) := by decide +kernel
theorem dX4_hasChair_11 : decode cX4_hasChair 11 = .ok (.getfield 22, 3) := by decide +kernel
theorem dX4_hasChair_14 : decode cX4_hasChair 14 = .ok (.iload_n 1, 1) := by decide +kernel
theorem dX4_hasChair_15 : decode cX4_hasChair 15 = .ok (.baload, 1) := by decide +kernel
theorem dX4_hasChair_16 : decode cX4_hasChair 16 = .ok (.ifCond .eq 7, 3) := by decide +kernel
theorem dX4_hasChair_19 : decode cX4_hasChair 19 = .ok (.iconst 1, 1) := by decide +kernel
theorem dX4_hasChair_20 : decode cX4_hasChair 20 = .ok (.goto 4, 3) := by decide +kernel
theorem dX4_hasChair_23 : decode cX4_hasChair 23 = .ok (.iconst 0, 1) := by decide +kernel
theorem dX4_hasChair_24 : decode cX4_hasChair 24 = .ok (.ireturn, 1) := by decide +kernel
theorem dX4_placeOfChair_0 : decode cX4_placeOfChair 0 = .ok (.iload_n 1, 1) := by decide +kernel
theorem dX4_placeOfChair_1 : decode cX4_placeOfChair 1 = .ok (.ifCond .lt 26, 3) := by decide +kernel
theorem dX4_placeOfChair_4 : decode cX4_placeOfChair 4 = .ok (.iload_n 1, 1) := by decide +kernel
theorem dX4_placeOfChair_5 : decode cX4_placeOfChair 5 = .ok (.aload_n 0, 1) := by decide +kernel
theorem dX4_placeOfChair_6 : decode cX4_placeOfChair 6 = .ok (.getfield 15, 3) := by decide +kernel
theorem dX4_placeOfChair_9 : decode cX4_placeOfChair 9 = .ok (.if_icmp .ge 18, 3) := by decide +kernel
theorem dX4_placeOfChair_12 : decode cX4_placeOfChair 12 = .ok (.iload_n 1, 1) := by decide +kernel
theorem dX4_placeOfChair_13 : decode cX4_placeOfChair 13 = .ok (.bipush 11, 2) := by decide +kernel
theorem dX4_placeOfChair_15 : decode cX4_placeOfChair 15 = .ok (.if_icmp .ge 12, 3) := by decide +kernel
theorem dX4_placeOfChair_18 : decode cX4_placeOfChair 18 = .ok (.aload_n 0, 1) := by decide +kernel
theorem dX4_placeOfChair_19 : decode cX4_placeOfChair 19 = .ok (.getfield 18, 3) := by decide +kernel
theorem dX4_placeOfChair_22 : decode cX4_placeOfChair 22 = .ok (.iload_n 1, 1) := by decide +kernel
theorem dX4_placeOfChair_23 : decode cX4_placeOfChair 23 = .ok (.iaload, 1) := by decide +kernel
theorem dX4_placeOfChair_24 : decode cX4_placeOfChair 24 = .ok (.goto 5, 3) := by decide +kernel
theorem dX4_placeOfChair_27 : decode cX4_placeOfChair 27 = .ok (.bipush (-9), 2) := by decide +kernel
theorem dX4_placeOfChair_29 : decode cX4_placeOfChair 29 = .ok (.ireturn, 1) := by decide +kernel
theorem dX4_far_0 : decode cX4_far 0 = .ok (.iload_n 1, 1) := by decide +kernel
theorem dX4_far_1 : decode cX4_far 1 = .ok (.iload_n 2, 1) := by decide +kernel
theorem dX4_far_2 : decode cX4_far 2 = .ok (.if_icmp .ge 9, 3) := by decide +kernel
theorem dX4_far_5 : decode cX4_far 5 = .ok (.iload_n 2, 1) := by decide +kernel
theorem dX4_far_6 : decode cX4_far 6 = .ok (.iload_n 1, 1) := by decide +kernel
theorem dX4_far_7 : decode cX4_far 7 = .ok (.isub, 1) := by decide +kernel
theorem dX4_far_8 : decode cX4_far 8 = .ok (.goto 6, 3) := by decide +kernel
theorem dX4_far_11 : decode cX4_far 11 = .ok (.iload_n 1, 1) := by decide +kernel
theorem dX4_far_12 : decode cX4_far 12 = .ok (.iload_n 2, 1) := by decide +kernel
theorem dX4_far_13 : decode cX4_far 13 = .ok (.isub, 1) := by decide +kernel
theorem dX4_far_14 : decode cX4_far 14 = .ok (.istore_n 3, 1) := by decide +kernel
theorem dX4_far_15 : decode cX4_far 15 = .ok (.iload_n 3, 1) := by decide +kernel
theorem dX4_far_16 : decode cX4_far 16 = .ok (.aload_n 0, 1) := by decide +kernel
theorem dX4_far_17 : decode cX4_far 17 = .ok (.getfield 9, 3) := by decide +kernel
theorem dX4_far_20 : decode cX4_far 20 = .ok (.iload_n 3, 1) := by decide +kernel
theorem dX4_far_21 : decode cX4_far 21 = .ok (.isub, 1) := by decide +kernel
theorem dX4_far_22 : decode cX4_far 22 = .ok (.if_icmp .le 12, 3) := by decide +kernel
theorem dX4_far_25 : decode cX4_far 25 = .ok (.aload_n 0, 1) := by decide +kernel
theorem dX4_far_26 : decode cX4_far 26 = .ok (.getfield 9, 3) := by decide +kernel
theorem dX4_far_29 : decode cX4_far 29 = .ok (.iload_n 3, 1) := by decide +kernel
theorem dX4_far_30 : decode cX4_far 30 = .ok (.isub, 1) := by decide +kernel
theorem dX4_far_31 : decode cX4_far 31 = .ok (.goto 4, 3) := by decide +kernel
theorem dX4_far_34 : decode cX4_far 34 = .ok (.iload_n 3, 1) := by decide +kernel
theorem dX4_far_35 : decode cX4_far 35 = .ok (.ireturn, 1) := by decide +kernel
theorem dX4_farFromChairs_0 : decode cX4_farFromChairs 0 = .ok (.bipush 60, 2) := by decide +kernel
theorem dX4_farFromChairs_2 : decode cX4_farFromChairs 2 = .ok (.istore_n 2, 1) := by decide +kernel
theorem dX4_farFromChairs_3 : decode cX4_farFromChairs 3 = .ok (.iconst 0, 1) := by decide +kernel
theorem dX4_farFromChairs_4 : decode cX4_farFromChairs 4 = .ok (.istore_n 3, 1) := by decide +kernel
theorem dX4_farFromChairs_5 : decode cX4_farFromChairs 5 = .ok (.iload_n 3, 1) := by decide +kernel
theorem dX4_farFromChairs_6 : decode cX4_farFromChairs 6 = .ok (.aload_n 0, 1) := by decide +kernel
theorem dX4_farFromChairs_7 : decode cX4_farFromChairs 7 = .ok (.getfield 15, 3) := by decide +kernel
theorem dX4_farFromChairs_10 : decode cX4_farFromChairs 10 = .ok (.if_icmp .ge 30, 3) := by decide +kernel
theorem dX4_farFromChairs_13 : decode cX4_farFromChairs 13 = .ok (.aload_n 0, 1) := by decide +kernel
theorem dX4_farFromChairs_14 : decode cX4_farFromChairs 14 = .ok (.iload_n 1, 1) := by decide +kernel
theorem dX4_farFromChairs_15 : decode cX4_farFromChairs 15 = .ok (.aload_n 0, 1) := by decide +kernel
theorem dX4_farFromChairs_16 : decode cX4_farFromChairs 16 = .ok (.iload_n 3, 1) := by decide +kernel
theorem dX4_farFromChairs_17 : decode cX4_farFromChairs 17 = .ok (.invokevirtual 32, 3) := by decide +kernel
theorem dX4_farFromChairs_20 : decode cX4_farFromChairs 20 = .ok (.invokevirtual 36, 3) := by decide +kernel
theorem dX4_farFromChairs_23 : decode cX4_farFromChairs 23 = .ok (.istore 4, 2) := by decide +kernel
theorem dX4_farFromChairs_25 : decode cX4_farFromChairs 25 = .ok (.iload 4, 2) := by decide +kernel
theorem dX4_farFromChairs_27 : decode cX4_farFromChairs 27 = .ok (.iload_n 2, 1) := by decide +kernel
theorem dX4_farFromChairs_28 : decode cX4_farFromChairs 28 = .ok (.if_icmp .ge 6, 3) := by decide +kernel
theorem dX4_farFromChairs_31 : decode cX4_farFromChairs 31 = .ok (.iload 4, 2) := by decide +kernel
theorem dX4_farFromChairs_33 : decode cX4_farFromChairs 33 = .ok (.istore_n 2, 1) := by decide +kernel
theorem dX4_farFromChairs_34 : decode cX4_farFromChairs 34 = .ok (.iinc 3 1, 3) := by decide +kernel
theorem dX4_farFromChairs_37 : decode cX4_farFromChairs 37 = .ok (.goto (-32), 3) := by decide +kernel
theorem dX4_farFromChairs_40 : decode cX4_farFromChairs 40 = .ok (.iload_n 2, 1) := by decide +kernel
theorem dX4_farFromChairs_41 : decode cX4_farFromChairs 41 = .ok (.ireturn, 1) := by decide +kernel
theorem dX4_putChair_0 : decode cX4_putChair 0 = .ok (.aload_n 0, 1) := by decide +kernel
theorem dX4_putChair_1 : decode cX4_putChair 1 = .ok (.getfield 15, 3) := by decide +kernel
theorem dX4_putChair_4 : decode cX4_putChair 4 = .ok (.bipush 11, 2) := by decide +kernel
theorem dX4_putChair_6 : decode cX4_putChair 6 = .ok (.if_icmp .ge 13, 3) := by decide +kernel
theorem dX4_putChair_9 : decode cX4_putChair 9 = .ok (.iload_n 1, 1) := by decide +kernel
theorem dX4_putChair_10 : decode cX4_putChair 10 = .ok (.ifCond .lt 9, 3) := by decide +kernel
theorem dX4_putChair_13 : decode cX4_putChair 13 = .ok (.iload_n 1, 1) := by decide +kernel
theorem dX4_putChair_14 : decode cX4_putChair 14 = .ok (.bipush 60, 2) := by decide +kernel
theorem dX4_putChair_16 : decode cX4_putChair 16 = .ok (.if_icmp .lt 4, 3) := by decide +kernel
theorem dX4_putChair_19 : decode cX4_putChair 19 = .ok (.return_, 1) := by decide +kernel
theorem dX4_putChair_20 : decode cX4_putChair 20 = .ok (.aload_n 0, 1) := by decide +kernel
theorem dX4_putChair_21 : decode cX4_putChair 21 = .ok (.getfield 15, 3) := by decide +kernel
theorem dX4_putChair_24 : decode cX4_putChair 24 = .ok (.istore_n 2, 1) := by decide +kernel
theorem dX4_putChair_25 : decode cX4_putChair 25 = .ok (.iload_n 2, 1) := by decide +kernel
theorem dX4_putChair_26 : decode cX4_putChair 26 = .ok (.ifCond .le 35, 3) := by decide +kernel
theorem dX4_putChair_29 : decode cX4_putChair 29 = .ok (.aload_n 0, 1) := by decide +kernel
theorem dX4_putChair_30 : decode cX4_putChair 30 = .ok (.getfield 18, 3) := by decide +kernel
theorem dX4_putChair_33 : decode cX4_putChair 33 = .ok (.iload_n 2, 1) := by decide +kernel
theorem dX4_putChair_34 : decode cX4_putChair 34 = .ok (.iconst 1, 1) := by decide +kernel
theorem dX4_putChair_35 : decode cX4_putChair 35 = .ok (.isub, 1) := by decide +kernel
theorem dX4_putChair_36 : decode cX4_putChair 36 = .ok (.iaload, 1) := by decide +kernel
theorem dX4_putChair_37 : decode cX4_putChair 37 = .ok (.iload_n 1, 1) := by decide +kernel
theorem dX4_putChair_38 : decode cX4_putChair 38 = .ok (.if_icmp .le 23, 3) := by decide +kernel
theorem dX4_putChair_41 : decode cX4_putChair 41 = .ok (.aload_n 0, 1) := by decide +kernel
theorem dX4_putChair_42 : decode cX4_putChair 42 = .ok (.getfield 18, 3) := by decide +kernel
theorem dX4_putChair_45 : decode cX4_putChair 45 = .ok (.iload_n 2, 1) := by decide +kernel
theorem dX4_putChair_46 : decode cX4_putChair 46 = .ok (.aload_n 0, 1) := by decide +kernel
theorem dX4_putChair_47 : decode cX4_putChair 47 = .ok (.getfield 18, 3) := by decide +kernel
theorem dX4_putChair_50 : decode cX4_putChair 50 = .ok (.iload_n 2, 1) := by decide +kernel
theorem dX4_putChair_51 : decode cX4_putChair 51 = .ok (.iconst 1, 1) := by decide +kernel
theorem dX4_putChair_52 : decode cX4_putChair 52 = .ok (.isub, 1) := by decide +kernel
theorem dX4_putChair_53 : decode cX4_putChair 53 = .ok (.iaload, 1) := by decide +kernel
theorem dX4_putChair_54 : decode cX4_putChair 54 = .ok (.iastore, 1) := by decide +kernel
theorem dX4_putChair_55 : decode cX4_putChair 55 = .ok (.iinc 2 (-1), 3) := by decide +kernel
theorem dX4_putChair_58 : decode cX4_putChair 58 = .ok (.goto (-33), 3) := by decide +kernel
theorem dX4_putChair_61 : decode cX4_putChair 61 = .ok (.aload_n 0, 1) := by decide +kernel
theorem dX4_putChair_62 : decode cX4_putChair 62 = .ok (.getfield 18, 3) := by decide +kernel
theorem dX4_putChair_65 : decode cX4_putChair 65 = .ok (.iload_n 2, 1) := by decide +kernel
theorem dX4_putChair_66 : decode cX4_putChair 66 = .ok (.iload_n 1, 1) := by decide +kernel
theorem dX4_putChair_67 : decode cX4_putChair 67 = .ok (.iastore, 1) := by decide +kernel
theorem dX4_putChair_68 : decode cX4_putChair 68 = .ok (.aload_n 0, 1) := by decide +kernel
theorem dX4_putChair_69 : decode cX4_putChair 69 = .ok (.getfield 22, 3) := by decide +kernel
theorem dX4_putChair_72 : decode cX4_putChair 72 = .ok (.iload_n 1, 1) := by decide +kernel
theorem dX4_putChair_73 : decode cX4_putChair 73 = .ok (.iconst 1, 1) := by decide +kernel
theorem dX4_putChair_74 : decode cX4_putChair 74 = .ok (.bastore, 1) := by decide +kernel
theorem dX4_putChair_75 : decode cX4_putChair 75 = .ok (.aload_n 0, 1) := by decide +kernel
theorem dX4_putChair_76 : decode cX4_putChair 76 = .ok (.dup, 1) := by decide +kernel
theorem dX4_putChair_77 : decode cX4_putChair 77 = .ok (.getfield 15, 3) := by decide +kernel
theorem dX4_putChair_80 : decode cX4_putChair 80 = .ok (.iconst 1, 1) := by decide +kernel
theorem dX4_putChair_81 : decode cX4_putChair 81 = .ok (.iadd, 1) := by decide +kernel
theorem dX4_putChair_82 : decode cX4_putChair 82 = .ok (.putfield 15, 3) := by decide +kernel
theorem dX4_putChair_85 : decode cX4_putChair 85 = .ok (.return_, 1) := by decide +kernel
theorem dX4_takeChair_0 : decode cX4_takeChair 0 = .ok (.aload_n 0, 1) := by decide +kernel
theorem dX4_takeChair_1 : decode cX4_takeChair 1 = .ok (.iload_n 1, 1) := by decide +kernel
theorem dX4_takeChair_2 : decode cX4_takeChair 2 = .ok (.invokevirtual 40, 3) := by decide +kernel
theorem dX4_takeChair_5 : decode cX4_takeChair 5 = .ok (.ifCond .ne 4, 3) := by decide +kernel
theorem dX4_takeChair_8 : decode cX4_takeChair 8 = .ok (.return_, 1) := by decide +kernel
theorem dX4_takeChair_9 : decode cX4_takeChair 9 = .ok (.iconst 0, 1) := by decide +kernel
theorem dX4_takeChair_10 : decode cX4_takeChair 10 = .ok (.istore_n 2, 1) := by decide +kernel
theorem dX4_takeChair_11 : decode cX4_takeChair 11 = .ok (.iconst 0, 1) := by decide +kernel
theorem dX4_takeChair_12 : decode cX4_takeChair 12 = .ok (.istore_n 3, 1) := by decide +kernel
theorem dX4_takeChair_13 : decode cX4_takeChair 13 = .ok (.iload_n 3, 1) := by decide +kernel
theorem dX4_takeChair_14 : decode cX4_takeChair 14 = .ok (.aload_n 0, 1) := by decide +kernel
theorem dX4_takeChair_15 : decode cX4_takeChair 15 = .ok (.getfield 15, 3) := by decide +kernel
theorem dX4_takeChair_18 : decode cX4_takeChair 18 = .ok (.if_icmp .ge 40, 3) := by decide +kernel
theorem dX4_takeChair_21 : decode cX4_takeChair 21 = .ok (.iload_n 3, 1) := by decide +kernel
theorem dX4_takeChair_22 : decode cX4_takeChair 22 = .ok (.bipush 11, 2) := by decide +kernel
theorem dX4_takeChair_24 : decode cX4_takeChair 24 = .ok (.if_icmp .ge 34, 3) := by decide +kernel
theorem dX4_takeChair_27 : decode cX4_takeChair 27 = .ok (.aload_n 0, 1) := by decide +kernel
theorem dX4_takeChair_28 : decode cX4_takeChair 28 = .ok (.getfield 18, 3) := by decide +kernel
theorem dX4_takeChair_31 : decode cX4_takeChair 31 = .ok (.iload_n 3, 1) := by decide +kernel
theorem dX4_takeChair_32 : decode cX4_takeChair 32 = .ok (.iaload, 1) := by decide +kernel
theorem dX4_takeChair_33 : decode cX4_takeChair 33 = .ok (.iload_n 1, 1) := by decide +kernel
theorem dX4_takeChair_34 : decode cX4_takeChair 34 = .ok (.if_icmp .eq 18, 3) := by decide +kernel
theorem dX4_takeChair_37 : decode cX4_takeChair 37 = .ok (.aload_n 0, 1) := by decide +kernel
theorem dX4_takeChair_38 : decode cX4_takeChair 38 = .ok (.getfield 18, 3) := by decide +kernel
theorem dX4_takeChair_41 : decode cX4_takeChair 41 = .ok (.iload_n 2, 1) := by decide +kernel
theorem dX4_takeChair_42 : decode cX4_takeChair 42 = .ok (.aload_n 0, 1) := by decide +kernel
theorem dX4_takeChair_43 : decode cX4_takeChair 43 = .ok (.getfield 18, 3) := by decide +kernel
theorem dX4_takeChair_46 : decode cX4_takeChair 46 = .ok (.iload_n 3, 1) := by decide +kernel
theorem dX4_takeChair_47 : decode cX4_takeChair 47 = .ok (.iaload, 1) := by decide +kernel
theorem dX4_takeChair_48 : decode cX4_takeChair 48 = .ok (.iastore, 1) := by decide +kernel
theorem dX4_takeChair_49 : decode cX4_takeChair 49 = .ok (.iinc 2 1, 3) := by decide +kernel
theorem dX4_takeChair_52 : decode cX4_takeChair 52 = .ok (.iinc 3 1, 3) := by decide +kernel
theorem dX4_takeChair_55 : decode cX4_takeChair 55 = .ok (.goto (-42), 3) := by decide +kernel
theorem dX4_takeChair_58 : decode cX4_takeChair 58 = .ok (.aload_n 0, 1) := by decide +kernel
theorem dX4_takeChair_59 : decode cX4_takeChair 59 = .ok (.iload_n 2, 1) := by decide +kernel
theorem dX4_takeChair_60 : decode cX4_takeChair 60 = .ok (.putfield 15, 3) := by decide +kernel
theorem dX4_takeChair_63 : decode cX4_takeChair 63 = .ok (.aload_n 0, 1) := by decide +kernel
theorem dX4_takeChair_64 : decode cX4_takeChair 64 = .ok (.getfield 22, 3) := by decide +kernel
theorem dX4_takeChair_67 : decode cX4_takeChair 67 = .ok (.iload_n 1, 1) := by decide +kernel
theorem dX4_takeChair_68 : decode cX4_takeChair 68 = .ok (.iconst 0, 1) := by decide +kernel
theorem dX4_takeChair_69 : decode cX4_takeChair 69 = .ok (.bastore, 1) := by decide +kernel
theorem dX4_takeChair_70 : decode cX4_takeChair 70 = .ok (.return_, 1) := by decide +kernel
theorem dX4_leavingPlace_0 : decode cX4_leavingPlace 0 = .ok (.iload_n 1, 1) := by decide +kernel
theorem dX4_leavingPlace_1 : decode cX4_leavingPlace 1 = .ok (.ifCond .ne 9, 3) := by decide +kernel
theorem dX4_leavingPlace_4 : decode cX4_leavingPlace 4 = .ok (.aload_n 0, 1) := by decide +kernel
theorem dX4_leavingPlace_5 : decode cX4_leavingPlace 5 = .ok (.iconst 0, 1) := by decide +kernel
theorem dX4_leavingPlace_6 : decode cX4_leavingPlace 6 = .ok (.invokevirtual 32, 3) := by decide +kernel
theorem dX4_leavingPlace_9 : decode cX4_leavingPlace 9 = .ok (.ireturn, 1) := by decide +kernel
theorem dX4_leavingPlace_10 : decode cX4_leavingPlace 10 = .ok (.aload_n 0, 1) := by decide +kernel
theorem dX4_leavingPlace_11 : decode cX4_leavingPlace 11 = .ok (.iload_n 1, 1) := by decide +kernel
theorem dX4_leavingPlace_12 : decode cX4_leavingPlace 12 = .ok (.iconst 1, 1) := by decide +kernel
theorem dX4_leavingPlace_13 : decode cX4_leavingPlace 13 = .ok (.if_icmp .ne 12, 3) := by decide +kernel
theorem dX4_leavingPlace_16 : decode cX4_leavingPlace 16 = .ok (.aload_n 0, 1) := by decide +kernel
theorem dX4_leavingPlace_17 : decode cX4_leavingPlace 17 = .ok (.getfield 15, 3) := by decide +kernel
theorem dX4_leavingPlace_20 : decode cX4_leavingPlace 20 = .ok (.iconst 1, 1) := by decide +kernel
theorem dX4_leavingPlace_21 : decode cX4_leavingPlace 21 = .ok (.isub, 1) := by decide +kernel
theorem dX4_leavingPlace_22 : decode cX4_leavingPlace 22 = .ok (.goto 7, 3) := by decide +kernel
theorem dX4_leavingPlace_25 : decode cX4_leavingPlace 25 = .ok (.aload_n 0, 1) := by decide +kernel
theorem dX4_leavingPlace_26 : decode cX4_leavingPlace 26 = .ok (.invokevirtual 44, 3) := by decide +kernel
theorem dX4_leavingPlace_29 : decode cX4_leavingPlace 29 = .ok (.invokevirtual 32, 3) := by decide +kernel
theorem dX4_leavingPlace_32 : decode cX4_leavingPlace 32 = .ok (.ireturn, 1) := by decide +kernel
theorem dX4_mostCrowdedChair_0 : decode cX4_mostCrowdedChair 0 = .ok (.iconst 0, 1) := by decide +kernel
theorem dX4_mostCrowdedChair_1 : decode cX4_mostCrowdedChair 1 = .ok (.istore_n 1, 1) := by decide +kernel
theorem dX4_mostCrowdedChair_2 : decode cX4_mostCrowdedChair 2 = .ok (.ldc 48, 2) := by decide +kernel
theorem dX4_mostCrowdedChair_4 : decode cX4_mostCrowdedChair 4 = .ok (.istore_n 2, 1) := by decide +kernel
theorem dX4_mostCrowdedChair_5 : decode cX4_mostCrowdedChair 5 = .ok (.iconst 0, 1) := by decide +kernel
theorem dX4_mostCrowdedChair_6 : decode cX4_mostCrowdedChair 6 = .ok (.istore_n 3, 1) := by decide +kernel
theorem dX4_mostCrowdedChair_7 : decode cX4_mostCrowdedChair 7 = .ok (.iload_n 3, 1) := by decide +kernel
theorem dX4_mostCrowdedChair_8 : decode cX4_mostCrowdedChair 8 = .ok (.aload_n 0, 1) := by decide +kernel
theorem dX4_mostCrowdedChair_9 : decode cX4_mostCrowdedChair 9 = .ok (.getfield 15, 3) := by decide +kernel
theorem dX4_mostCrowdedChair_12 : decode cX4_mostCrowdedChair 12 = .ok (.if_icmp .ge 90, 3) := by decide +kernel
theorem dX4_mostCrowdedChair_15 : decode cX4_mostCrowdedChair 15 = .ok (.aload_n 0, 1) := by decide +kernel
theorem dX4_mostCrowdedChair_16 : decode cX4_mostCrowdedChair 16 = .ok (.iload_n 3, 1) := by decide +kernel
theorem dX4_mostCrowdedChair_17 : decode cX4_mostCrowdedChair 17 = .ok (.ifCond .le 9, 3) := by decide +kernel
theorem dX4_mostCrowdedChair_20 : decode cX4_mostCrowdedChair 20 = .ok (.iload_n 3, 1) := by decide +kernel
theorem dX4_mostCrowdedChair_21 : decode cX4_mostCrowdedChair 21 = .ok (.iconst 1, 1) := by decide +kernel
theorem dX4_mostCrowdedChair_22 : decode cX4_mostCrowdedChair 22 = .ok (.isub, 1) := by decide +kernel
theorem dX4_mostCrowdedChair_23 : decode cX4_mostCrowdedChair 23 = .ok (.goto 9, 3) := by decide +kernel
theorem dX4_mostCrowdedChair_26 : decode cX4_mostCrowdedChair 26 = .ok (.aload_n 0, 1) := by decide +kernel
theorem dX4_mostCrowdedChair_27 : decode cX4_mostCrowdedChair 27 = .ok (.getfield 15, 3) := by decide +kernel
theorem dX4_mostCrowdedChair_30 : decode cX4_mostCrowdedChair 30 = .ok (.iconst 1, 1) := by decide +kernel
theorem dX4_mostCrowdedChair_31 : decode cX4_mostCrowdedChair 31 = .ok (.isub, 1) := by decide +kernel
theorem dX4_mostCrowdedChair_32 : decode cX4_mostCrowdedChair 32 = .ok (.invokevirtual 32, 3) := by decide +kernel
theorem dX4_mostCrowdedChair_35 : decode cX4_mostCrowdedChair 35 = .ok (.istore 4, 2) := by decide +kernel
theorem dX4_mostCrowdedChair_37 : decode cX4_mostCrowdedChair 37 = .ok (.aload_n 0, 1) := by decide +kernel
theorem dX4_mostCrowdedChair_38 : decode cX4_mostCrowdedChair 38 = .ok (.iload_n 3, 1) := by decide +kernel
theorem dX4_mostCrowdedChair_39 : decode cX4_mostCrowdedChair 39 = .ok (.aload_n 0, 1) := by decide +kernel
theorem dX4_mostCrowdedChair_40 : decode cX4_mostCrowdedChair 40 = .ok (.getfield 15, 3) := by decide +kernel
theorem dX4_mostCrowdedChair_43 : decode cX4_mostCrowdedChair 43 = .ok (.iconst 1, 1) := by decide +kernel
theorem dX4_mostCrowdedChair_44 : decode cX4_mostCrowdedChair 44 = .ok (.isub, 1) := by decide +kernel
theorem dX4_mostCrowdedChair_45 : decode cX4_mostCrowdedChair 45 = .ok (.if_icmp .ge 9, 3) := by decide +kernel
theorem dX4_mostCrowdedChair_48 : decode cX4_mostCrowdedChair 48 = .ok (.iload_n 3, 1) := by decide +kernel
theorem dX4_mostCrowdedChair_49 : decode cX4_mostCrowdedChair 49 = .ok (.iconst 1, 1) := by decide +kernel
theorem dX4_mostCrowdedChair_50 : decode cX4_mostCrowdedChair 50 = .ok (.iadd, 1) := by decide +kernel
theorem dX4_mostCrowdedChair_51 : decode cX4_mostCrowdedChair 51 = .ok (.goto 4, 3) := by decide +kernel
theorem dX4_mostCrowdedChair_54 : decode cX4_mostCrowdedChair 54 = .ok (.iconst 0, 1) := by decide +kernel
theorem dX4_mostCrowdedChair_55 : decode cX4_mostCrowdedChair 55 = .ok (.invokevirtual 32, 3) := by decide +kernel
theorem dX4_mostCrowdedChair_58 : decode cX4_mostCrowdedChair 58 = .ok (.istore 5, 2) := by decide +kernel
theorem dX4_mostCrowdedChair_60 : decode cX4_mostCrowdedChair 60 = .ok (.aload_n 0, 1) := by decide +kernel
theorem dX4_mostCrowdedChair_61 : decode cX4_mostCrowdedChair 61 = .ok (.iload 4, 2) := by decide +kernel
theorem dX4_mostCrowdedChair_63 : decode cX4_mostCrowdedChair 63 = .ok (.aload_n 0, 1) := by decide +kernel
theorem dX4_mostCrowdedChair_64 : decode cX4_mostCrowdedChair 64 = .ok (.iload_n 3, 1) := by decide +kernel
theorem dX4_mostCrowdedChair_65 : decode cX4_mostCrowdedChair 65 = .ok (.invokevirtual 32, 3) := by decide +kernel
theorem dX4_mostCrowdedChair_68 : decode cX4_mostCrowdedChair 68 = .ok (.invokevirtual 49, 3) := by decide +kernel
theorem dX4_mostCrowdedChair_71 : decode cX4_mostCrowdedChair 71 = .ok (.aload_n 0, 1) := by decide +kernel
theorem dX4_mostCrowdedChair_72 : decode cX4_mostCrowdedChair 72 = .ok (.aload_n 0, 1) := by decide +kernel
theorem dX4_mostCrowdedChair_73 : decode cX4_mostCrowdedChair 73 = .ok (.iload_n 3, 1) := by decide +kernel
theorem dX4_mostCrowdedChair_74 : decode cX4_mostCrowdedChair 74 = .ok (.invokevirtual 32, 3) := by decide +kernel
theorem dX4_mostCrowdedChair_77 : decode cX4_mostCrowdedChair 77 = .ok (.iload 5, 2) := by decide +kernel
theorem dX4_mostCrowdedChair_79 : decode cX4_mostCrowdedChair 79 = .ok (.invokevirtual 49, 3) := by decide +kernel
theorem dX4_mostCrowdedChair_82 : decode cX4_mostCrowdedChair 82 = .ok (.iadd, 1) := by decide +kernel
theorem dX4_mostCrowdedChair_83 : decode cX4_mostCrowdedChair 83 = .ok (.istore 6, 2) := by decide +kernel
theorem dX4_mostCrowdedChair_85 : decode cX4_mostCrowdedChair 85 = .ok (.iload 6, 2) := by decide +kernel
theorem dX4_mostCrowdedChair_87 : decode cX4_mostCrowdedChair 87 = .ok (.iload_n 2, 1) := by decide +kernel
theorem dX4_mostCrowdedChair_88 : decode cX4_mostCrowdedChair 88 = .ok (.if_icmp .ge 8, 3) := by decide +kernel
theorem dX4_mostCrowdedChair_91 : decode cX4_mostCrowdedChair 91 = .ok (.iload 6, 2) := by decide +kernel
theorem dX4_mostCrowdedChair_93 : decode cX4_mostCrowdedChair 93 = .ok (.istore_n 2, 1) := by decide +kernel
theorem dX4_mostCrowdedChair_94 : decode cX4_mostCrowdedChair 94 = .ok (.iload_n 3, 1) := by decide +kernel
theorem dX4_mostCrowdedChair_95 : decode cX4_mostCrowdedChair 95 = .ok (.istore_n 1, 1) := by decide +kernel
theorem dX4_mostCrowdedChair_96 : decode cX4_mostCrowdedChair 96 = .ok (.iinc 3 1, 3) := by decide +kernel
theorem dX4_mostCrowdedChair_99 : decode cX4_mostCrowdedChair 99 = .ok (.goto (-92), 3) := by decide +kernel
theorem dX4_mostCrowdedChair_102 : decode cX4_mostCrowdedChair 102 = .ok (.iload_n 1, 1) := by decide +kernel
theorem dX4_mostCrowdedChair_103 : decode cX4_mostCrowdedChair 103 = .ok (.ireturn, 1) := by decide +kernel
theorem dX4_wayOn_0 : decode cX4_wayOn 0 = .ok (.iload_n 2, 1) := by decide +kernel
theorem dX4_wayOn_1 : decode cX4_wayOn 1 = .ok (.iload_n 1, 1) := by decide +kernel
theorem dX4_wayOn_2 : decode cX4_wayOn 2 = .ok (.if_icmp .le 9, 3) := by decide +kernel
theorem dX4_wayOn_5 : decode cX4_wayOn 5 = .ok (.iload_n 2, 1) := by decide +kernel
theorem dX4_wayOn_6 : decode cX4_wayOn 6 = .ok (.iload_n 1, 1) := by decide +kernel
theorem dX4_wayOn_7 : decode cX4_wayOn 7 = .ok (.isub, 1) := by decide +kernel
theorem dX4_wayOn_8 : decode cX4_wayOn 8 = .ok (.goto 11, 3) := by decide +kernel
theorem dX4_wayOn_11 : decode cX4_wayOn 11 = .ok (.iload_n 2, 1) := by decide +kernel
theorem dX4_wayOn_12 : decode cX4_wayOn 12 = .ok (.iload_n 1, 1) := by decide +kernel
theorem dX4_wayOn_13 : decode cX4_wayOn 13 = .ok (.isub, 1) := by decide +kernel
theorem dX4_wayOn_14 : decode cX4_wayOn 14 = .ok (.aload_n 0, 1) := by decide +kernel
theorem dX4_wayOn_15 : decode cX4_wayOn 15 = .ok (.getfield 9, 3) := by decide +kernel
theorem dX4_wayOn_18 : decode cX4_wayOn 18 = .ok (.iadd, 1) := by decide +kernel
theorem dX4_wayOn_19 : decode cX4_wayOn 19 = .ok (.ireturn, 1) := by decide +kernel
theorem dX5_init_0 : decode cX5_init 0 = .ok (.aload_n 0, 1) := by decide +kernel
theorem dX5_init_1 : decode cX5_init 1 = .ok (.invokespecial 3, 3) := by decide +kernel
theorem dX5_init_4 : decode cX5_init 4 = .ok (.aload_n 0, 1) := by decide +kernel
theorem dX5_init_5 : decode cX5_init 5 = .ok (.bipush 12, 2) := by decide +kernel
theorem dX5_init_7 : decode cX5_init 7 = .ok (.newarray .int, 2) := by decide +kernel
theorem dX5_init_9 : decode cX5_init 9 = .ok (.putfield 9, 3) := by decide +kernel
theorem dX5_init_12 : decode cX5_init 12 = .ok (.aload_n 0, 1) := by decide +kernel
theorem dX5_init_13 : decode cX5_init 13 = .ok (.sipush 132, 3) := by decide +kernel
theorem dX5_init_16 : decode cX5_init 16 = .ok (.newarray .int, 2) := by decide +kernel
theorem dX5_init_18 : decode cX5_init 18 = .ok (.putfield 15, 3) := by decide +kernel
theorem dX5_init_21 : decode cX5_init 21 = .ok (.aload_n 0, 1) := by decide +kernel
theorem dX5_init_22 : decode cX5_init 22 = .ok (.bipush 11, 2) := by decide +kernel
theorem dX5_init_24 : decode cX5_init 24 = .ok (.newarray .boolean, 2) := by decide +kernel
theorem dX5_init_26 : decode cX5_init 26 = .ok (.putfield 18, 3) := by decide +kernel
theorem dX5_init_29 : decode cX5_init 29 = .ok (.aload_n 0, 1) := by decide +kernel
theorem dX5_init_30 : decode cX5_init 30 = .ok (.iconst 0, 1) := by decide +kernel
theorem dX5_init_31 : decode cX5_init 31 = .ok (.putfield 22, 3) := by decide +kernel
theorem dX5_init_34 : decode cX5_init 34 = .ok (.aload_n 0, 1) := by decide +kernel
theorem dX5_init_35 : decode cX5_init 35 = .ok (.iconst 0, 1) := by decide +kernel
theorem dX5_init_36 : decode cX5_init 36 = .ok (.putfield 26, 3) := by decide +kernel
theorem dX5_init_39 : decode cX5_init 39 = .ok (.return_, 1) := by decide +kernel
theorem dX5_seatAll_0 : decode cX5_seatAll 0 = .ok (.aload_n 0, 1) := by decide +kernel
theorem dX5_seatAll_1 : decode cX5_seatAll 1 = .ok (.aload_n 1, 1) := by decide +kernel
theorem dX5_seatAll_2 : decode cX5_seatAll 2 = .ok (.invokevirtual 29, 3) := by decide +kernel
theorem dX5_seatAll_5 : decode cX5_seatAll 5 = .ok (.iconst 1, 1) := by decide +kernel
theorem dX5_seatAll_6 : decode cX5_seatAll 6 = .ok (.istore_n 2, 1) := by decide +kernel
theorem dX5_seatAll_7 : decode cX5_seatAll 7 = .ok (.iconst 0, 1) := by decide +kernel
theorem dX5_seatAll_8 : decode cX5_seatAll 8 = .ok (.istore_n 3, 1) := by decide +kernel
theorem dX5_seatAll_9 : decode cX5_seatAll 9 = .ok (.iload_n 3, 1) := by decide +kernel
theorem dX5_seatAll_10 : decode cX5_seatAll 10 = .ok (.aload_n 0, 1) := by decide +kernel
theorem dX5_seatAll_11 : decode cX5_seatAll 11 = .ok (.getfield 26, 3) := by decide +kernel
theorem dX5_seatAll_14 : decode cX5_seatAll 14 = .ok (.if_icmp .ge 18, 3) := by decide +kernel
theorem dX5_seatAll_17 : decode cX5_seatAll 17 = .ok (.iload_n 2, 1) := by decide +kernel
theorem dX5_seatAll_18 : decode cX5_seatAll 18 = .ok (.ifCond .eq 14, 3) := by decide +kernel
theorem dX5_seatAll_21 : decode cX5_seatAll 21 = .ok (.aload_n 0, 1) := by decide +kernel
theorem dX5_seatAll_22 : decode cX5_seatAll 22 = .ok (.invokevirtual 33, 3) := by decide +kernel
theorem dX5_seatAll_25 : decode cX5_seatAll 25 = .ok (.istore_n 2, 1) := by decide +kernel
theorem dX5_seatAll_26 : decode cX5_seatAll 26 = .ok (.iinc 3 1, 3) := by decide +kernel
theorem dX5_seatAll_29 : decode cX5_seatAll 29 = .ok (.goto (-20), 3) := by decide +kernel
theorem dX5_seatAll_32 : decode cX5_seatAll 32 = .ok (.iconst 0, 1) := by decide +kernel
theorem dX5_seatAll_33 : decode cX5_seatAll 33 = .ok (.istore_n 3, 1) := by decide +kernel
theorem dX5_seatAll_34 : decode cX5_seatAll 34 = .ok (.iload_n 3, 1) := by decide +kernel
theorem dX5_seatAll_35 : decode cX5_seatAll 35 = .ok (.aload_n 0, 1) := by decide +kernel
theorem dX5_seatAll_36 : decode cX5_seatAll 36 = .ok (.getfield 22, 3) := by decide +kernel
theorem dX5_seatAll_39 : decode cX5_seatAll 39 = .ok (.if_icmp .ge 37, 3) := by decide +kernel
theorem dX5_seatAll_42 : decode cX5_seatAll 42 = .ok (.aload_n 1, 1) := by decide +kernel
theorem dX5_seatAll_43 : decode cX5_seatAll 43 = .ok (.getfield 37, 3) := by decide +kernel
theorem dX5_seatAll_46 : decode cX5_seatAll 46 = .ok (.iload_n 3, 1) := by decide +kernel
theorem dX5_seatAll_47 : decode cX5_seatAll 47 = .ok (.aaload, 1) := by decide +kernel
theorem dX5_seatAll_48 : decode cX5_seatAll 48 = .ok (.getfield 42, 3) := by decide +kernel
theorem dX5_seatAll_51 : decode cX5_seatAll 51 = .ok (.bipush 6, 2) := by decide +kernel
theorem dX5_seatAll_53 : decode cX5_seatAll 53 = .ok (.if_icmp .ne 17, 3) := by decide +kernel
theorem dX5_seatAll_56 : decode cX5_seatAll 56 = .ok (.aload_n 0, 1) := by decide +kernel
theorem dX5_seatAll_57 : decode cX5_seatAll 57 = .ok (.getfield 9, 3) := by decide +kernel
theorem dX5_seatAll_60 : decode cX5_seatAll 60 = .ok (.iload_n 3, 1) := by decide +kernel
theorem dX5_seatAll_61 : decode cX5_seatAll 61 = .ok (.iaload, 1) := by decide +kernel
theorem dX5_seatAll_62 : decode cX5_seatAll 62 = .ok (.ifCond .lt 8, 3) := by decide +kernel
theorem dX5_seatAll_65 : decode cX5_seatAll 65 = .ok (.aload_n 0, 1) := by decide +kernel
theorem dX5_seatAll_66 : decode cX5_seatAll 66 = .ok (.iload_n 3, 1) := by decide +kernel
theorem dX5_seatAll_67 : decode cX5_seatAll 67 = .ok (.invokevirtual 47, 3) := by decide +kernel
theorem dX5_seatAll_70 : decode cX5_seatAll 70 = .ok (.iinc 3 1, 3) := by decide +kernel
theorem dX5_seatAll_73 : decode cX5_seatAll 73 = .ok (.goto (-39), 3) := by decide +kernel
theorem dX5_seatAll_76 : decode cX5_seatAll 76 = .ok (.return_, 1) := by decide +kernel
theorem dX5_isSeated_0 : decode cX5_isSeated 0 = .ok (.iload_n 1, 1) := by decide +kernel
theorem dX5_isSeated_1 : decode cX5_isSeated 1 = .ok (.ifCond .lt 24, 3) := by decide +kernel
theorem dX5_isSeated_4 : decode cX5_isSeated 4 = .ok (.iload_n 1, 1) := by decide +kernel
theorem dX5_isSeated_5 : decode cX5_isSeated 5 = .ok (.aload_n 0, 1) := by decide +kernel
theorem dX5_isSeated_6 : decode cX5_isSeated 6 = .ok (.getfield 22, 3) := by decide +kernel
theorem dX5_isSeated_9 : decode cX5_isSeated 9 = .ok (.if_icmp .ge 16, 3) := by decide +kernel
theorem dX5_isSeated_12 : decode cX5_isSeated 12 = .ok (.aload_n 0, 1) := by decide +kernel
theorem dX5_isSeated_13 : decode cX5_isSeated 13 = .ok (.getfield 9, 3) := by decide +kernel
theorem dX5_isSeated_16 : decode cX5_isSeated 16 = .ok (.iload_n 1, 1) := by decide +kernel
theorem dX5_isSeated_17 : decode cX5_isSeated 17 = .ok (.iaload, 1) := by decide +kernel
theorem dX5_isSeated_18 : decode cX5_isSeated 18 = .ok (.ifCond .lt 7, 3) := by decide +kernel
theorem dX5_isSeated_21 : decode cX5_isSeated 21 = .ok (.iconst 1, 1) := by decide +kernel
theorem dX5_isSeated_22 : decode cX5_isSeated 22 = .ok (.goto 4, 3) := by decide +kernel
theorem dX5_isSeated_25 : decode cX5_isSeated 25 = .ok (.iconst 0, 1) := by decide +kernel
theorem dX5_isSeated_26 : decode cX5_isSeated 26 = .ok (.ireturn, 1) := by decide +kernel
theorem dX5_placeOf_0 : decode cX5_placeOf 0 = .ok (.aload_n 0, 1) := by decide +kernel
theorem dX5_placeOf_1 : decode cX5_placeOf 1 = .ok (.iload_n 1, 1) := by decide +kernel
theorem dX5_placeOf_2 : decode cX5_placeOf 2 = .ok (.invokevirtual 51, 3) := by decide +kernel
theorem dX5_placeOf_5 : decode cX5_placeOf 5 = .ok (.ifCond .eq 16, 3) := by decide +kernel
theorem dX5_placeOf_8 : decode cX5_placeOf 8 = .ok (.aload_n 2, 1) := by decide +kernel
theorem dX5_placeOf_9 : decode cX5_placeOf 9 = .ok (.aload_n 0, 1) := by decide +kernel
theorem dX5_placeOf_10 : decode cX5_placeOf 10 = .ok (.getfield 9, 3) := by decide +kernel
theorem dX5_placeOf_13 : decode cX5_placeOf 13 = .ok (.iload_n 1, 1) := by decide +kernel
theorem dX5_placeOf_14 : decode cX5_placeOf 14 = .ok (.iaload, 1) := by decide +kernel
theorem dX5_placeOf_15 : decode cX5_placeOf 15 = .ok (.invokevirtual 55, 3) := by decide +kernel
theorem dX5_placeOf_18 : decode cX5_placeOf 18 = .ok (.goto 5, 3) := by decide +kernel
theorem dX5_placeOf_21 : decode cX5_placeOf 21 = .ok (.bipush (-9), 2) := by decide +kernel
theorem dX5_placeOf_23 : decode cX5_placeOf 23 = .ok (.ireturn, 1) := by decide +kernel
theorem dX5_measure_0 : decode cX5_measure 0 = .ok (.aload_n 0, 1) := by decide +kernel
theorem dX5_measure_1 : decode cX5_measure 1 = .ok (.aload_n 1, 1) := by decide +kernel
theorem dX5_measure_2 : decode cX5_measure 2 = .ok (.getfield 61, 3) := by decide +kernel
theorem dX5_measure_5 : decode cX5_measure 5 = .ok (.bipush 12, 2) := by decide +kernel
theorem dX5_measure_7 : decode cX5_measure 7 = .ok (.if_icmp .ge 10, 3) := by decide +kernel
theorem dX5_measure_10 : decode cX5_measure 10 = .ok (.aload_n 1, 1) := by decide +kernel
theorem dX5_measure_11 : decode cX5_measure 11 = .ok (.getfield 61, 3) := by decide +kernel
theorem dX5_measure_14 : decode cX5_measure 14 = .ok (.goto 5, 3) := by decide +kernel
theorem dX5_measure_17 : decode cX5_measure 17 = .ok (.bipush 12, 2) := by decide +kernel
theorem dX5_measure_19 : decode cX5_measure 19 = .ok (.putfield 22, 3) := by decide +kernel
theorem dX5_measure_22 : decode cX5_measure 22 = .ok (.aload_n 0, 1) := by decide +kernel
theorem dX5_measure_23 : decode cX5_measure 23 = .ok (.aload_n 1, 1) := by decide +kernel
theorem dX5_measure_24 : decode cX5_measure 24 = .ok (.getfield 64, 3) := by decide +kernel
theorem dX5_measure_27 : decode cX5_measure 27 = .ok (.getfield 68, 3) := by decide +kernel
theorem dX5_measure_30 : decode cX5_measure 30 = .ok (.bipush 11, 2) := by decide +kernel
theorem dX5_measure_32 : decode cX5_measure 32 = .ok (.if_icmp .ge 13, 3) := by decide +kernel
theorem dX5_measure_35 : decode cX5_measure 35 = .ok (.aload_n 1, 1) := by decide +kernel
theorem dX5_measure_36 : decode cX5_measure 36 = .ok (.getfield 64, 3) := by decide +kernel
theorem dX5_measure_39 : decode cX5_measure 39 = .ok (.getfield 68, 3) := by decide +kernel
theorem dX5_measure_42 : decode cX5_measure 42 = .ok (.goto 5, 3) := by decide +kernel
theorem dX5_measure_45 : decode cX5_measure 45 = .ok (.bipush 11, 2) := by decide +kernel
theorem dX5_measure_47 : decode cX5_measure 47 = .ok (.putfield 26, 3) := by decide +kernel
theorem dX5_measure_50 : decode cX5_measure 50 = .ok (.iconst 0, 1) := by decide +kernel
theorem dX5_measure_51 : decode cX5_measure 51 = .ok (.istore_n 2, 1) := by decide +kernel
theorem dX5_measure_52 : decode cX5_measure 52 = .ok (.iload_n 2, 1) := by decide +kernel
theorem dX5_measure_53 : decode cX5_measure 53 = .ok (.aload_n 0, 1) := by decide +kernel
theorem dX5_measure_54 : decode cX5_measure 54 = .ok (.getfield 26, 3) := by decide +kernel
theorem dX5_measure_57 : decode cX5_measure 57 = .ok (.if_icmp .ge 16, 3) := by decide +kernel
theorem dX5_measure_60 : decode cX5_measure 60 = .ok (.aload_n 0, 1) := by decide +kernel
theorem dX5_measure_61 : decode cX5_measure 61 = .ok (.getfield 18, 3) := by decide +kernel
theorem dX5_measure_64 : decode cX5_measure 64 = .ok (.iload_n 2, 1) := by decide +kernel
theorem dX5_measure_65 : decode cX5_measure 65 = .ok (.iconst 1, 1) := by decide +kernel
theorem dX5_measure_66 : decode cX5_measure 66 = .ok (.bastore, 1) := by decide +kernel
theorem dX5_measure_67 : decode cX5_measure 67 = .ok (.iinc 2 1, 3) := by decide +kernel
theorem dX5_measure_70 : decode cX5_measure 70 = .ok (.goto (-18), 3) := by decide +kernel
theorem dX5_measure_73 : decode cX5_measure 73 = .ok (.iconst 0, 1) := by decide +kernel
theorem dX5_measure_74 : decode cX5_measure 74 = .ok (.istore_n 2, 1) := by decide +kernel
theorem dX5_measure_75 : decode cX5_measure 75 = .ok (.iload_n 2, 1) := by decide +kernel
theorem dX5_measure_76 : decode cX5_measure 76 = .ok (.aload_n 0, 1) := by decide +kernel
theorem dX5_measure_77 : decode cX5_measure 77 = .ok (.getfield 22, 3) := by decide +kernel
theorem dX5_measure_80 : decode cX5_measure 80 = .ok (.if_icmp .ge 114, 3) := by decide +kernel
theorem dX5_measure_83 : decode cX5_measure 83 = .ok (.aload_n 1, 1) := by decide +kernel
theorem dX5_measure_84 : decode cX5_measure 84 = .ok (.getfield 37, 3) := by decide +kernel
theorem dX5_measure_87 : decode cX5_measure 87 = .ok (.iload_n 2, 1) := by decide +kernel
theorem dX5_measure_88 : decode cX5_measure 88 = .ok (.aaload, 1) := by decide +kernel
theorem dX5_measure_89 : decode cX5_measure 89 = .ok (.astore_n 3, 1) := by decide +kernel
theorem dX5_measure_90 : decode cX5_measure 90 = .ok (.aload_n 0, 1) := by decide +kernel
theorem dX5_measure_91 : decode cX5_measure 91 = .ok (.getfield 9, 3) := by decide +kernel
theorem dX5_measure_94 : decode cX5_measure 94 = .ok (.iload_n 2, 1) := by decide +kernel
theorem dX5_measure_95 : decode cX5_measure 95 = .ok (.iconst (-1), 1) := by decide +kernel
theorem dX5_measure_96 : decode cX5_measure 96 = .ok (.iastore, 1) := by decide +kernel
theorem dX5_measure_97 : decode cX5_measure 97 = .ok (.iconst 0, 1) := by decide +kernel
theorem dX5_measure_98 : decode cX5_measure 98 = .ok (.istore 4, 2) := by decide +kernel
theorem dX5_measure_100 : decode cX5_measure 100 = .ok (.iload 4, 2) := by decide +kernel
theorem dX5_measure_102 : decode cX5_measure 102 = .ok (.aload_n 0, 1) := by decide +kernel
theorem dX5_measure_103 : decode cX5_measure 103 = .ok (.getfield 26, 3) := by decide +kernel
theorem dX5_measure_106 : decode cX5_measure 106 = .ok (.if_icmp .ge 82, 3) := by decide +kernel
theorem dX5_measure_109 : decode cX5_measure 109 = .ok (.aload_n 1, 1) := by decide +kernel
theorem dX5_measure_110 : decode cX5_measure 110 = .ok (.getfield 64, 3) := by decide +kernel
theorem dX5_measure_113 : decode cX5_measure 113 = .ok (.aload_n 3, 1) := by decide +kernel
theorem dX5_measure_114 : decode cX5_measure 114 = .ok (.getfield 69, 3) := by decide +kernel
theorem dX5_measure_117 : decode cX5_measure 117 = .ok (.aload_n 1, 1) := by decide +kernel
theorem dX5_measure_118 : decode cX5_measure 118 = .ok (.getfield 64, 3) := by decide +kernel
theorem dX5_measure_121 : decode cX5_measure 121 = .ok (.iload 4, 2) := by decide +kernel
theorem dX5_measure_123 : decode cX5_measure 123 = .ok (.invokevirtual 55, 3) := by decide +kernel
theorem dX5_measure_126 : decode cX5_measure 126 = .ok (.invokevirtual 72, 3) := by decide +kernel
theorem dX5_measure_129 : decode cX5_measure 129 = .ok (.istore 5, 2) := by decide +kernel
theorem dX5_measure_131 : decode cX5_measure 131 = .ok (.aload_n 3, 1) := by decide +kernel
theorem dX5_measure_132 : decode cX5_measure 132 = .ok (.getfield 76, 3) := by decide +kernel
theorem dX5_measure_135 : decode cX5_measure 135 = .ok (.ifCond .eq 16, 3) := by decide +kernel
theorem dX5_measure_138 : decode cX5_measure 138 = .ok (.iload 5, 2) := by decide +kernel
theorem dX5_measure_140 : decode cX5_measure 140 = .ok (.aload_n 3, 1) := by decide +kernel
theorem dX5_measure_141 : decode cX5_measure 141 = .ok (.getfield 80, 3) := by decide +kernel
theorem dX5_measure_144 : decode cX5_measure 144 = .ok (.if_icmp .gt 7, 3) := by decide +kernel
theorem dX5_measure_147 : decode cX5_measure 147 = .ok (.iconst 1, 1) := by decide +kernel
theorem dX5_measure_148 : decode cX5_measure 148 = .ok (.goto 4, 3) := by decide +kernel
theorem dX5_measure_151 : decode cX5_measure 151 = .ok (.iconst 0, 1) := by decide +kernel
theorem dX5_measure_152 : decode cX5_measure 152 = .ok (.istore 6, 2) := by decide +kernel
theorem dX5_measure_154 : decode cX5_measure 154 = .ok (.aload_n 0, 1) := by decide +kernel
theorem dX5_measure_155 : decode cX5_measure 155 = .ok (.getfield 15, 3) := by decide +kernel
theorem dX5_measure_158 : decode cX5_measure 158 = .ok (.iload_n 2, 1) := by decide +kernel
theorem dX5_measure_159 : decode cX5_measure 159 = .ok (.bipush 11, 2) := by decide +kernel
theorem dX5_measure_161 : decode cX5_measure 161 = .ok (.imul, 1) := by decide +kernel
theorem dX5_measure_162 : decode cX5_measure 162 = .ok (.iload 4, 2) := by decide +kernel
theorem dX5_measure_164 : decode cX5_measure 164 = .ok (.iadd, 1) := by decide +kernel
theorem dX5_measure_165 : decode cX5_measure 165 = .ok (.iload 6, 2) := by decide +kernel
theorem dX5_measure_167 : decode cX5_measure 167 = .ok (.ifCond .eq 12, 3) := by decide +kernel
theorem dX5_measure_170 : decode cX5_measure 170 = .ok (.aload_n 3, 1) := by decide +kernel
theorem dX5_measure_171 : decode cX5_measure 171 = .ok (.iload 5, 2) := by decide +kernel
theorem dX5_measure_173 : decode cX5_measure 173 = .ok (.invokevirtual 83, 3) := by decide +kernel
theorem dX5_measure_176 : decode cX5_measure 176 = .ok (.goto 5, 3) := by decide +kernel
theorem dX5_measure_179 : decode cX5_measure 179 = .ok (.ldc 86, 2) := by decide +kernel
theorem dX5_measure_181 : decode cX5_measure 181 = .ok (.iastore, 1) := by decide +kernel
theorem dX5_measure_182 : decode cX5_measure 182 = .ok (.iinc 4 1, 3) := by decide +kernel
theorem dX5_measure_185 : decode cX5_measure 185 = .ok (.goto (-85), 3) := by decide +kernel
theorem dX5_measure_188 : decode cX5_measure 188 = .ok (.iinc 2 1, 3) := by decide +kernel
theorem dX5_measure_191 : decode cX5_measure 191 = .ok (.goto (-116), 3) := by decide +kernel
theorem dX5_measure_194 : decode cX5_measure 194 = .ok (.return_, 1) := by decide +kernel
theorem dX5_seatLeastHaste_0 : decode cX5_seatLeastHaste 0 = .ok (.ldc 86, 2) := by decide +kernel
theorem dX5_seatLeastHaste_2 : decode cX5_seatLeastHaste 2 = .ok (.istore_n 1, 1) := by decide +kernel
theorem dX5_seatLeastHaste_3 : decode cX5_seatLeastHaste 3 = .ok (.iconst (-1), 1) := by decide +kernel
theorem dX5_seatLeastHaste_4 : decode cX5_seatLeastHaste 4 = .ok (.istore_n 2, 1) := by decide +kernel
theorem dX5_seatLeastHaste_5 : decode cX5_seatLeastHaste 5 = .ok (.iconst (-1), 1) := by decide +kernel
theorem dX5_seatLeastHaste_6 : decode cX5_seatLeastHaste 6 = .ok (.istore_n 3, 1) := by decide +kernel
theorem dX5_seatLeastHaste_7 : decode cX5_seatLeastHaste 7 = .ok (.iconst 0, 1) := by decide +kernel
theorem dX5_seatLeastHaste_8 : decode cX5_seatLeastHaste 8 = .ok (.istore 4, 2) := by decide +kernel
theorem dX5_seatLeastHaste_10 : decode cX5_seatLeastHaste 10 = .ok (.iload 4, 2) := by decide +kernel
theorem dX5_seatLeastHaste_12 : decode cX5_seatLeastHaste 12 = .ok (.aload_n 0, 1) := by decide +kernel
theorem dX5_seatLeastHaste_13 : decode cX5_seatLeastHaste 13 = .ok (.getfield 22, 3) := by decide +kernel
theorem dX5_seatLeastHaste_16 : decode cX5_seatLeastHaste 16 = .ok (.if_icmp .ge 84, 3) := by decide +kernel
theorem dX5_seatLeastHaste_19 : decode cX5_seatLeastHaste 19 = .ok (.iconst 0, 1) := by decide +kernel
theorem dX5_seatLeastHaste_20 : decode cX5_seatLeastHaste 20 = .ok (.istore 5, 2) := by decide +kernel
theorem dX5_seatLeastHaste_22 : decode cX5_seatLeastHaste 22 = .ok (.iload 5, 2) := by decide +kernel
theorem dX5_seatLeastHaste_24 : decode cX5_seatLeastHaste 24 = .ok (.aload_n 0, 1) := by decide +kernel
theorem dX5_seatLeastHaste_25 : decode cX5_seatLeastHaste 25 = .ok (.getfield 26, 3) := by decide +kernel
theorem dX5_seatLeastHaste_28 : decode cX5_seatLeastHaste 28 = .ok (.if_icmp .ge 66, 3) := by decide +kernel
theorem dX5_seatLeastHaste_31 : decode cX5_seatLeastHaste 31 = .ok (.aload_n 0, 1) := by decide +kernel
theorem dX5_seatLeastHaste_32 : decode cX5_seatLeastHaste 32 = .ok (.getfield 9, 3) := by decide +kernel
theorem dX5_seatLeastHaste_35 : decode cX5_seatLeastHaste 35 = .ok (.iload 4, 2) := by decide +kernel
theorem dX5_seatLeastHaste_37 : decode cX5_seatLeastHaste 37 = .ok (.iaload, 1) := by decide +kernel
theorem dX5_seatLeastHaste_38 : decode cX5_seatLeastHaste 38 = .ok (.ifCond .ge 56, 3) := by decide +kernel
theorem dX5_seatLeastHaste_41 : decode cX5_seatLeastHaste 41 = .ok (.aload_n 0, 1) := by decide +kernel
theorem dX5_seatLeastHaste_42 : decode cX5_seatLeastHaste 42 = .ok (.getfield 18, 3) := by decide +kernel
theorem dX5_seatLeastHaste_45 : decode cX5_seatLeastHaste 45 = .ok (.iload 5, 2) := by decide +kernel
theorem dX5_seatLeastHaste_47 : decode cX5_seatLeastHaste 47 = .ok (.baload, 1) := by decide +kernel
theorem dX5_seatLeastHaste_48 : decode cX5_seatLeastHaste 48 = .ok (.ifCond .eq 40, 3) := by decide +kernel
theorem dX5_seatLeastHaste_51 : decode cX5_seatLeastHaste 51 = .ok (.aload_n 0, 1) := by decide +kernel
theorem dX5_seatLeastHaste_52 : decode cX5_seatLeastHaste 52 = .ok (.getfield 15, 3) := by decide +kernel
theorem dX5_seatLeastHaste_55 : decode cX5_seatLeastHaste 55 = .ok (.iload 4, 2) := by decide +kernel
theorem dX5_seatLeastHaste_57 : decode cX5_seatLeastHaste 57 = .ok (.bipush 11, 2) := by decide +kernel
theorem dX5_seatLeastHaste_59 : decode cX5_seatLeastHaste 59 = .ok (.imul, 1) := by decide +kernel
theorem dX5_seatLeastHaste_60 : decode cX5_seatLeastHaste 60 = .ok (.iload 5, 2) := by decide +kernel
theorem dX5_seatLeastHaste_62 : decode cX5_seatLeastHaste 62 = .ok (.iadd, 1) := by decide +kernel
theorem dX5_seatLeastHaste_63 : decode cX5_seatLeastHaste 63 = .ok (.iaload, 1) := by decide +kernel
theorem dX5_seatLeastHaste_64 : decode cX5_seatLeastHaste 64 = .ok (.iload_n 1, 1) := by decide +kernel
theorem dX5_seatLeastHaste_65 : decode cX5_seatLeastHaste 65 = .ok (.if_icmp .ge 23, 3) := by decide +kernel
theorem dX5_seatLeastHaste_68 : decode cX5_seatLeastHaste 68 = .ok (.aload_n 0, 1) := by decide +kernel
theorem dX5_seatLeastHaste_69 : decode cX5_seatLeastHaste 69 = .ok (.getfield 15, 3) := by decide +kernel
theorem dX5_seatLeastHaste_72 : decode cX5_seatLeastHaste 72 = .ok (.iload 4, 2) := by decide +kernel
theorem dX5_seatLeastHaste_74 : decode cX5_seatLeastHaste 74 = .ok (.bipush 11, 2) := by decide +kernel
theorem dX5_seatLeastHaste_76 : decode cX5_seatLeastHaste 76 = .ok (.imul, 1) := by decide +kernel
theorem dX5_seatLeastHaste_77 : decode cX5_seatLeastHaste 77 = .ok (.iload 5, 2) := by decide +kernel
theorem dX5_seatLeastHaste_79 : decode cX5_seatLeastHaste 79 = .ok (.iadd, 1) := by decide +kernel
theorem dX5_seatLeastHaste_80 : decode cX5_seatLeastHaste 80 = .ok (.iaload, 1) := by decide +kernel
theorem dX5_seatLeastHaste_81 : decode cX5_seatLeastHaste 81 = .ok (.istore_n 1, 1) := by decide +kernel
theorem dX5_seatLeastHaste_82 : decode cX5_seatLeastHaste 82 = .ok (.iload 4, 2) := by decide +kernel
theorem dX5_seatLeastHaste_84 : decode cX5_seatLeastHaste 84 = .ok (.istore_n 2, 1) := by decide +kernel
theorem dX5_seatLeastHaste_85 : decode cX5_seatLeastHaste 85 = .ok (.iload 5, 2) := by decide +kernel
theorem dX5_seatLeastHaste_87 : decode cX5_seatLeastHaste 87 = .ok (.istore_n 3, 1) := by decide +kernel
theorem dX5_seatLeastHaste_88 : decode cX5_seatLeastHaste 88 = .ok (.iinc 5 1, 3) := by decide +kernel
end
section
theorem dX5_seatLeastHaste_91 : decode cX5_seatLeastHaste 91 = .ok (.goto (-69), 3) := by decide +kernel
theorem dX5_seatLeastHaste_94 : decode cX5_seatLeastHaste 94 = .ok (.iinc 4 1, 3) := by decide +kernel
theorem dX5_seatLeastHaste_97 : decode cX5_seatLeastHaste 97 = .ok (.goto (-87), 3) := by decide +kernel
theorem dX5_seatLeastHaste_100 : decode cX5_seatLeastHaste 100 = .ok (.iload_n 2, 1) := by decide +kernel
theorem dX5_seatLeastHaste_101 : decode cX5_seatLeastHaste 101 = .ok (.ifCond .lt 7, 3) := by decide +kernel
theorem dX5_seatLeastHaste_104 : decode cX5_seatLeastHaste 104 = .ok (.iload_n 3, 1) := by decide +kernel
theorem dX5_seatLeastHaste_105 : decode cX5_seatLeastHaste 105 = .ok (.ifCond .ge 5, 3) := by decide +kernel
theorem dX5_seatLeastHaste_108 : decode cX5_seatLeastHaste 108 = .ok (.iconst 0, 1) := by decide +kernel
theorem dX5_seatLeastHaste_109 : decode cX5_seatLeastHaste 109 = .ok (.ireturn, 1) := by decide +kernel
theorem dX5_seatLeastHaste_110 : decode cX5_seatLeastHaste 110 = .ok (.aload_n 0, 1) := by decide +kernel
theorem dX5_seatLeastHaste_111 : decode cX5_seatLeastHaste 111 = .ok (.getfield 9, 3) := by decide +kernel
theorem dX5_seatLeastHaste_114 : decode cX5_seatLeastHaste 114 = .ok (.iload_n 2, 1) := by decide +kernel
theorem dX5_seatLeastHaste_115 : decode cX5_seatLeastHaste 115 = .ok (.iload_n 3, 1) := by decide +kernel
theorem dX5_seatLeastHaste_116 : decode cX5_seatLeastHaste 116 = .ok (.iastore, 1) := by decide +kernel
theorem dX5_seatLeastHaste_117 : decode cX5_seatLeastHaste 117 = .ok (.aload_n 0, 1) := by decide +kernel
theorem dX5_seatLeastHaste_118 : decode cX5_seatLeastHaste 118 = .ok (.getfield 18, 3) := by decide +kernel
theorem dX5_seatLeastHaste_121 : decode cX5_seatLeastHaste 121 = .ok (.iload_n 3, 1) := by decide +kernel
theorem dX5_seatLeastHaste_122 : decode cX5_seatLeastHaste 122 = .ok (.iconst 0, 1) := by decide +kernel
theorem dX5_seatLeastHaste_123 : decode cX5_seatLeastHaste 123 = .ok (.bastore, 1) := by decide +kernel
theorem dX5_seatLeastHaste_124 : decode cX5_seatLeastHaste 124 = .ok (.iconst 1, 1) := by decide +kernel
theorem dX5_seatLeastHaste_125 : decode cX5_seatLeastHaste 125 = .ok (.ireturn, 1) := by decide +kernel
theorem dX5_giveWay_0 : decode cX5_giveWay 0 = .ok (.aload_n 0, 1) := by decide +kernel
theorem dX5_giveWay_1 : decode cX5_giveWay 1 = .ok (.getfield 9, 3) := by decide +kernel
theorem dX5_giveWay_4 : decode cX5_giveWay 4 = .ok (.iload_n 1, 1) := by decide +kernel
theorem dX5_giveWay_5 : decode cX5_giveWay 5 = .ok (.iaload, 1) := by decide +kernel
theorem dX5_giveWay_6 : decode cX5_giveWay 6 = .ok (.istore_n 2, 1) := by decide +kernel
theorem dX5_giveWay_7 : decode cX5_giveWay 7 = .ok (.aload_n 0, 1) := by decide +kernel
theorem dX5_giveWay_8 : decode cX5_giveWay 8 = .ok (.getfield 15, 3) := by decide +kernel
theorem dX5_giveWay_11 : decode cX5_giveWay 11 = .ok (.iload_n 1, 1) := by decide +kernel
theorem dX5_giveWay_12 : decode cX5_giveWay 12 = .ok (.bipush 11, 2) := by decide +kernel
theorem dX5_giveWay_14 : decode cX5_giveWay 14 = .ok (.imul, 1) := by decide +kernel
theorem dX5_giveWay_15 : decode cX5_giveWay 15 = .ok (.iload_n 2, 1) := by decide +kernel
theorem dX5_giveWay_16 : decode cX5_giveWay 16 = .ok (.iadd, 1) := by decide +kernel
theorem dX5_giveWay_17 : decode cX5_giveWay 17 = .ok (.iaload, 1) := by decide +kernel
theorem dX5_giveWay_18 : decode cX5_giveWay 18 = .ok (.istore_n 3, 1) := by decide +kernel
theorem dX5_giveWay_19 : decode cX5_giveWay 19 = .ok (.iconst 0, 1) := by decide +kernel
theorem dX5_giveWay_20 : decode cX5_giveWay 20 = .ok (.istore 4, 2) := by decide +kernel
theorem dX5_giveWay_22 : decode cX5_giveWay 22 = .ok (.iload 4, 2) := by decide +kernel
theorem dX5_giveWay_24 : decode cX5_giveWay 24 = .ok (.aload_n 0, 1) := by decide +kernel
theorem dX5_giveWay_25 : decode cX5_giveWay 25 = .ok (.getfield 22, 3) := by decide +kernel
theorem dX5_giveWay_28 : decode cX5_giveWay 28 = .ok (.if_icmp .ge 51, 3) := by decide +kernel
theorem dX5_giveWay_31 : decode cX5_giveWay 31 = .ok (.aload_n 0, 1) := by decide +kernel
theorem dX5_giveWay_32 : decode cX5_giveWay 32 = .ok (.getfield 9, 3) := by decide +kernel
theorem dX5_giveWay_35 : decode cX5_giveWay 35 = .ok (.iload 4, 2) := by decide +kernel
theorem dX5_giveWay_37 : decode cX5_giveWay 37 = .ok (.iaload, 1) := by decide +kernel
theorem dX5_giveWay_38 : decode cX5_giveWay 38 = .ok (.ifCond .ge 35, 3) := by decide +kernel
theorem dX5_giveWay_41 : decode cX5_giveWay 41 = .ok (.aload_n 0, 1) := by decide +kernel
theorem dX5_giveWay_42 : decode cX5_giveWay 42 = .ok (.getfield 15, 3) := by decide +kernel
theorem dX5_giveWay_45 : decode cX5_giveWay 45 = .ok (.iload 4, 2) := by decide +kernel
theorem dX5_giveWay_47 : decode cX5_giveWay 47 = .ok (.bipush 11, 2) := by decide +kernel
theorem dX5_giveWay_49 : decode cX5_giveWay 49 = .ok (.imul, 1) := by decide +kernel
theorem dX5_giveWay_50 : decode cX5_giveWay 50 = .ok (.iload_n 2, 1) := by decide +kernel
theorem dX5_giveWay_51 : decode cX5_giveWay 51 = .ok (.iadd, 1) := by decide +kernel
theorem dX5_giveWay_52 : decode cX5_giveWay 52 = .ok (.iaload, 1) := by decide +kernel
theorem dX5_giveWay_53 : decode cX5_giveWay 53 = .ok (.iload_n 3, 1) := by decide +kernel
theorem dX5_giveWay_54 : decode cX5_giveWay 54 = .ok (.if_icmp .gt 19, 3) := by decide +kernel
theorem dX5_giveWay_57 : decode cX5_giveWay 57 = .ok (.aload_n 0, 1) := by decide +kernel
theorem dX5_giveWay_58 : decode cX5_giveWay 58 = .ok (.getfield 9, 3) := by decide +kernel
theorem dX5_giveWay_61 : decode cX5_giveWay 61 = .ok (.iload 4, 2) := by decide +kernel
theorem dX5_giveWay_63 : decode cX5_giveWay 63 = .ok (.iload_n 2, 1) := by decide +kernel
theorem dX5_giveWay_64 : decode cX5_giveWay 64 = .ok (.iastore, 1) := by decide +kernel
theorem dX5_giveWay_65 : decode cX5_giveWay 65 = .ok (.aload_n 0, 1) := by decide +kernel
theorem dX5_giveWay_66 : decode cX5_giveWay 66 = .ok (.getfield 9, 3) := by decide +kernel
theorem dX5_giveWay_69 : decode cX5_giveWay 69 = .ok (.iload_n 1, 1) := by decide +kernel
theorem dX5_giveWay_70 : decode cX5_giveWay 70 = .ok (.iconst (-1), 1) := by decide +kernel
theorem dX5_giveWay_71 : decode cX5_giveWay 71 = .ok (.iastore, 1) := by decide +kernel
theorem dX5_giveWay_72 : decode cX5_giveWay 72 = .ok (.return_, 1) := by decide +kernel
theorem dX5_giveWay_73 : decode cX5_giveWay 73 = .ok (.iinc 4 1, 3) := by decide +kernel
theorem dX5_giveWay_76 : decode cX5_giveWay 76 = .ok (.goto (-54), 3) := by decide +kernel
theorem dX5_giveWay_79 : decode cX5_giveWay 79 = .ok (.return_, 1) := by decide +kernel
theorem dX6_init_0 : decode cX6_init 0 = .ok (.aload_n 0, 1) := by decide +kernel
theorem dX6_init_1 : decode cX6_init 1 = .ok (.invokespecial 3, 3) := by decide +kernel
theorem dX6_init_4 : decode cX6_init 4 = .ok (.aload_n 0, 1) := by decide +kernel
theorem dX6_init_5 : decode cX6_init 5 = .ok (.bipush 64, 2) := by decide +kernel
theorem dX6_init_7 : decode cX6_init 7 = .ok (.newarray .byte, 2) := by decide +kernel
theorem dX6_init_9 : decode cX6_init 9 = .ok (.putfield 9, 3) := by decide +kernel
theorem dX6_init_12 : decode cX6_init 12 = .ok (.aload_n 0, 1) := by decide +kernel
theorem dX6_init_13 : decode cX6_init 13 = .ok (.iconst 3, 1) := by decide +kernel
theorem dX6_init_14 : decode cX6_init 14 = .ok (.newarray .int, 2) := by decide +kernel
theorem dX6_init_16 : decode cX6_init 16 = .ok (.putfield 15, 3) := by decide +kernel
theorem dX6_init_19 : decode cX6_init 19 = .ok (.aload_n 0, 1) := by decide +kernel
theorem dX6_init_20 : decode cX6_init 20 = .ok (.iconst 0, 1) := by decide +kernel
theorem dX6_init_21 : decode cX6_init 21 = .ok (.putfield 19, 3) := by decide +kernel
theorem dX6_init_24 : decode cX6_init 24 = .ok (.aload_n 0, 1) := by decide +kernel
theorem dX6_init_25 : decode cX6_init 25 = .ok (.iconst 0, 1) := by decide +kernel
theorem dX6_init_26 : decode cX6_init 26 = .ok (.putfield 23, 3) := by decide +kernel
theorem dX6_init_29 : decode cX6_init 29 = .ok (.aload_n 0, 1) := by decide +kernel
theorem dX6_init_30 : decode cX6_init 30 = .ok (.iconst 0, 1) := by decide +kernel
theorem dX6_init_31 : decode cX6_init 31 = .ok (.putfield 26, 3) := by decide +kernel
theorem dX6_init_34 : decode cX6_init 34 = .ok (.aload_n 0, 1) := by decide +kernel
theorem dX6_init_35 : decode cX6_init 35 = .ok (.iconst 0, 1) := by decide +kernel
theorem dX6_init_36 : decode cX6_init 36 = .ok (.putfield 29, 3) := by decide +kernel
theorem dX6_init_39 : decode cX6_init 39 = .ok (.return_, 1) := by decide +kernel
theorem dX6_append_0 : decode cX6_append 0 = .ok (.iconst 0, 1) := by decide +kernel
theorem dX6_append_1 : decode cX6_append 1 = .ok (.istore 4, 2) := by decide +kernel
theorem dX6_append_3 : decode cX6_append 3 = .ok (.iload 4, 2) := by decide +kernel
theorem dX6_append_5 : decode cX6_append 5 = .ok (.iload_n 1, 1) := by decide +kernel
theorem dX6_append_6 : decode cX6_append 6 = .ok (.if_icmp .ge 46, 3) := by decide +kernel
theorem dX6_append_9 : decode cX6_append 9 = .ok (.aload_n 0, 1) := by decide +kernel
theorem dX6_append_10 : decode cX6_append 10 = .ok (.getfield 26, 3) := by decide +kernel
theorem dX6_append_13 : decode cX6_append 13 = .ok (.bipush 64, 2) := by decide +kernel
theorem dX6_append_15 : decode cX6_append 15 = .ok (.if_icmp .ge 37, 3) := by decide +kernel
theorem dX6_append_18 : decode cX6_append 18 = .ok (.aload_n 0, 1) := by decide +kernel
theorem dX6_append_19 : decode cX6_append 19 = .ok (.getfield 9, 3) := by decide +kernel
theorem dX6_append_22 : decode cX6_append 22 = .ok (.aload_n 0, 1) := by decide +kernel
theorem dX6_append_23 : decode cX6_append 23 = .ok (.getfield 26, 3) := by decide +kernel
theorem dX6_append_26 : decode cX6_append 26 = .ok (.lload_n 2, 1) := by decide +kernel
theorem dX6_append_27 : decode cX6_append 27 = .ok (.bipush 8, 2) := by decide +kernel
theorem dX6_append_29 : decode cX6_append 29 = .ok (.iload 4, 2) := by decide +kernel
theorem dX6_append_31 : decode cX6_append 31 = .ok (.imul, 1) := by decide +kernel
theorem dX6_append_32 : decode cX6_append 32 = .ok (.lushr, 1) := by decide +kernel
theorem dX6_append_33 : decode cX6_append 33 = .ok (.l2i, 1) := by decide +kernel
theorem dX6_append_34 : decode cX6_append 34 = .ok (.i2b, 1) := by decide +kernel
theorem dX6_append_35 : decode cX6_append 35 = .ok (.bastore, 1) := by decide +kernel
theorem dX6_append_36 : decode cX6_append 36 = .ok (.aload_n 0, 1) := by decide +kernel
theorem dX6_append_37 : decode cX6_append 37 = .ok (.dup, 1) := by decide +kernel
theorem dX6_append_38 : decode cX6_append 38 = .ok (.getfield 26, 3) := by decide +kernel
theorem dX6_append_41 : decode cX6_append 41 = .ok (.iconst 1, 1) := by decide +kernel
theorem dX6_append_42 : decode cX6_append 42 = .ok (.iadd, 1) := by decide +kernel
theorem dX6_append_43 : decode cX6_append 43 = .ok (.putfield 26, 3) := by decide +kernel
theorem dX6_append_46 : decode cX6_append 46 = .ok (.iinc 4 1, 3) := by decide +kernel
theorem dX6_append_49 : decode cX6_append 49 = .ok (.goto (-46), 3) := by decide +kernel
theorem dX6_append_52 : decode cX6_append 52 = .ok (.return_, 1) := by decide +kernel
theorem dX6_firstMisfit_0 : decode cX6_firstMisfit 0 = .ok (.aload_n 0, 1) := by decide +kernel
theorem dX6_firstMisfit_1 : decode cX6_firstMisfit 1 = .ok (.invokevirtual 32, 3) := by decide +kernel
theorem dX6_firstMisfit_4 : decode cX6_firstMisfit 4 = .ok (.iconst 0, 1) := by decide +kernel
theorem dX6_firstMisfit_5 : decode cX6_firstMisfit 5 = .ok (.istore_n 1, 1) := by decide +kernel
theorem dX6_firstMisfit_6 : decode cX6_firstMisfit 6 = .ok (.iload_n 1, 1) := by decide +kernel
theorem dX6_firstMisfit_7 : decode cX6_firstMisfit 7 = .ok (.bipush 64, 2) := by decide +kernel
theorem dX6_firstMisfit_9 : decode cX6_firstMisfit 9 = .ok (.if_icmp .ge 36, 3) := by decide +kernel
theorem dX6_firstMisfit_12 : decode cX6_firstMisfit 12 = .ok (.iload_n 1, 1) := by decide +kernel
theorem dX6_firstMisfit_13 : decode cX6_firstMisfit 13 = .ok (.ifCond .eq 14, 3) := by decide +kernel
theorem dX6_firstMisfit_16 : decode cX6_firstMisfit 16 = .ok (.aload_n 0, 1) := by decide +kernel
theorem dX6_firstMisfit_17 : decode cX6_firstMisfit 17 = .ok (.getfield 19, 3) := by decide +kernel
theorem dX6_firstMisfit_20 : decode cX6_firstMisfit 20 = .ok (.aload_n 0, 1) := by decide +kernel
theorem dX6_firstMisfit_21 : decode cX6_firstMisfit 21 = .ok (.getfield 26, 3) := by decide +kernel
theorem dX6_firstMisfit_24 : decode cX6_firstMisfit 24 = .ok (.if_icmp .ge 21, 3) := by decide +kernel
theorem dX6_firstMisfit_27 : decode cX6_firstMisfit 27 = .ok (.aload_n 0, 1) := by decide +kernel
theorem dX6_firstMisfit_28 : decode cX6_firstMisfit 28 = .ok (.invokevirtual 35, 3) := by decide +kernel
theorem dX6_firstMisfit_31 : decode cX6_firstMisfit 31 = .ok (.ifCond .ne 8, 3) := by decide +kernel
theorem dX6_firstMisfit_34 : decode cX6_firstMisfit 34 = .ok (.aload_n 0, 1) := by decide +kernel
theorem dX6_firstMisfit_35 : decode cX6_firstMisfit 35 = .ok (.getfield 19, 3) := by decide +kernel
theorem dX6_firstMisfit_38 : decode cX6_firstMisfit 38 = .ok (.ireturn, 1) := by decide +kernel
theorem dX6_firstMisfit_39 : decode cX6_firstMisfit 39 = .ok (.iinc 1 1, 3) := by decide +kernel
theorem dX6_firstMisfit_42 : decode cX6_firstMisfit 42 = .ok (.goto (-36), 3) := by decide +kernel
theorem dX6_firstMisfit_45 : decode cX6_firstMisfit 45 = .ok (.iconst (-1), 1) := by decide +kernel
theorem dX6_firstMisfit_46 : decode cX6_firstMisfit 46 = .ok (.ireturn, 1) := by decide +kernel
theorem dX6_firstImpossible_0 : decode cX6_firstImpossible 0 = .ok (.aload_n 0, 1) := by decide +kernel
theorem dX6_firstImpossible_1 : decode cX6_firstImpossible 1 = .ok (.invokevirtual 32, 3) := by decide +kernel
theorem dX6_firstImpossible_4 : decode cX6_firstImpossible 4 = .ok (.iconst 0, 1) := by decide +kernel
theorem dX6_firstImpossible_5 : decode cX6_firstImpossible 5 = .ok (.istore_n 2, 1) := by decide +kernel
theorem dX6_firstImpossible_6 : decode cX6_firstImpossible 6 = .ok (.iload_n 2, 1) := by decide +kernel
theorem dX6_firstImpossible_7 : decode cX6_firstImpossible 7 = .ok (.bipush 64, 2) := by decide +kernel
theorem dX6_firstImpossible_9 : decode cX6_firstImpossible 9 = .ok (.if_icmp .ge 50, 3) := by decide +kernel
theorem dX6_firstImpossible_12 : decode cX6_firstImpossible 12 = .ok (.aload_n 0, 1) := by decide +kernel
theorem dX6_firstImpossible_13 : decode cX6_firstImpossible 13 = .ok (.getfield 19, 3) := by decide +kernel
theorem dX6_firstImpossible_16 : decode cX6_firstImpossible 16 = .ok (.aload_n 0, 1) := by decide +kernel
theorem dX6_firstImpossible_17 : decode cX6_firstImpossible 17 = .ok (.getfield 26, 3) := by decide +kernel
theorem dX6_firstImpossible_20 : decode cX6_firstImpossible 20 = .ok (.if_icmp .ge 39, 3) := by decide +kernel
theorem dX6_firstImpossible_23 : decode cX6_firstImpossible 23 = .ok (.aload_n 0, 1) := by decide +kernel
theorem dX6_firstImpossible_24 : decode cX6_firstImpossible 24 = .ok (.getfield 19, 3) := by decide +kernel
theorem dX6_firstImpossible_27 : decode cX6_firstImpossible 27 = .ok (.istore_n 3, 1) := by decide +kernel
theorem dX6_firstImpossible_28 : decode cX6_firstImpossible 28 = .ok (.aload_n 0, 1) := by decide +kernel
theorem dX6_firstImpossible_29 : decode cX6_firstImpossible 29 = .ok (.invokevirtual 39, 3) := by decide +kernel
theorem dX6_firstImpossible_32 : decode cX6_firstImpossible 32 = .ok (.istore 4, 2) := by decide +kernel
theorem dX6_firstImpossible_34 : decode cX6_firstImpossible 34 = .ok (.aload_n 0, 1) := by decide +kernel
theorem dX6_firstImpossible_35 : decode cX6_firstImpossible 35 = .ok (.invokevirtual 35, 3) := by decide +kernel
theorem dX6_firstImpossible_38 : decode cX6_firstImpossible 38 = .ok (.ifCond .eq 13, 3) := by decide +kernel
theorem dX6_firstImpossible_41 : decode cX6_firstImpossible 41 = .ok (.aload_n 0, 1) := by decide +kernel
theorem dX6_firstImpossible_42 : decode cX6_firstImpossible 42 = .ok (.iload 4, 2) := by decide +kernel
theorem dX6_firstImpossible_44 : decode cX6_firstImpossible 44 = .ok (.aload_n 1, 1) := by decide +kernel
theorem dX6_firstImpossible_45 : decode cX6_firstImpossible 45 = .ok (.invokevirtual 43, 3) := by decide +kernel
theorem dX6_firstImpossible_48 : decode cX6_firstImpossible 48 = .ok (.ifCond .ne 5, 3) := by decide +kernel
theorem dX6_firstImpossible_51 : decode cX6_firstImpossible 51 = .ok (.iload_n 3, 1) := by decide +kernel
theorem dX6_firstImpossible_52 : decode cX6_firstImpossible 52 = .ok (.ireturn, 1) := by decide +kernel
theorem dX6_firstImpossible_53 : decode cX6_firstImpossible 53 = .ok (.iinc 2 1, 3) := by decide +kernel
theorem dX6_firstImpossible_56 : decode cX6_firstImpossible 56 = .ok (.goto (-50), 3) := by decide +kernel
theorem dX6_firstImpossible_59 : decode cX6_firstImpossible 59 = .ok (.iconst (-1), 1) := by decide +kernel
theorem dX6_firstImpossible_60 : decode cX6_firstImpossible 60 = .ok (.ireturn, 1) := by decide +kernel
theorem dX6_begin_0 : decode cX6_begin 0 = .ok (.aload_n 0, 1) := by decide +kernel
theorem dX6_begin_1 : decode cX6_begin 1 = .ok (.iconst 0, 1) := by decide +kernel
theorem dX6_begin_2 : decode cX6_begin 2 = .ok (.putfield 19, 3) := by decide +kernel
theorem dX6_begin_5 : decode cX6_begin 5 = .ok (.aload_n 0, 1) := by decide +kernel
theorem dX6_begin_6 : decode cX6_begin 6 = .ok (.iconst 0, 1) := by decide +kernel
theorem dX6_begin_7 : decode cX6_begin 7 = .ok (.putfield 29, 3) := by decide +kernel
theorem dX6_begin_10 : decode cX6_begin 10 = .ok (.return_, 1) := by decide +kernel
theorem dX6_readStatement_0 : decode cX6_readStatement 0 = .ok (.aload_n 0, 1) := by decide +kernel
theorem dX6_readStatement_1 : decode cX6_readStatement 1 = .ok (.invokevirtual 39, 3) := by decide +kernel
theorem dX6_readStatement_4 : decode cX6_readStatement 4 = .ok (.invokestatic 47, 3) := by decide +kernel
theorem dX6_readStatement_7 : decode cX6_readStatement 7 = .ok (.astore_n 1, 1) := by decide +kernel
theorem dX6_readStatement_8 : decode cX6_readStatement 8 = .ok (.aload_n 0, 1) := by decide +kernel
theorem dX6_readStatement_9 : decode cX6_readStatement 9 = .ok (.iconst 0, 1) := by decide +kernel
theorem dX6_readStatement_10 : decode cX6_readStatement 10 = .ok (.putfield 23, 3) := by decide +kernel
theorem dX6_readStatement_13 : decode cX6_readStatement 13 = .ok (.iconst 0, 1) := by decide +kernel
theorem dX6_readStatement_14 : decode cX6_readStatement 14 = .ok (.istore_n 2, 1) := by decide +kernel
theorem dX6_readStatement_15 : decode cX6_readStatement 15 = .ok (.iload_n 2, 1) := by decide +kernel
theorem dX6_readStatement_16 : decode cX6_readStatement 16 = .ok (.aload_n 1, 1) := by decide +kernel
theorem dX6_readStatement_17 : decode cX6_readStatement 17 = .ok (.invokevirtual 51, 3) := by decide +kernel
theorem dX6_readStatement_20 : decode cX6_readStatement 20 = .ok (.if_icmp .ge 23, 3) := by decide +kernel
theorem dX6_readStatement_23 : decode cX6_readStatement 23 = .ok (.aload_n 0, 1) := by decide +kernel
theorem dX6_readStatement_24 : decode cX6_readStatement 24 = .ok (.aload_n 1, 1) := by decide +kernel
theorem dX6_readStatement_25 : decode cX6_readStatement 25 = .ok (.iload_n 2, 1) := by decide +kernel
theorem dX6_readStatement_26 : decode cX6_readStatement 26 = .ok (.invokevirtual 55, 3) := by decide +kernel
theorem dX6_readStatement_29 : decode cX6_readStatement 29 = .ok (.invokevirtual 59, 3) := by decide +kernel
theorem dX6_readStatement_32 : decode cX6_readStatement 32 = .ok (.ifCond .ne 5, 3) := by decide +kernel
theorem dX6_readStatement_35 : decode cX6_readStatement 35 = .ok (.iconst 0, 1) := by decide +kernel
theorem dX6_readStatement_36 : decode cX6_readStatement 36 = .ok (.ireturn, 1) := by decide +kernel
theorem dX6_readStatement_37 : decode cX6_readStatement 37 = .ok (.iinc 2 1, 3) := by decide +kernel
theorem dX6_readStatement_40 : decode cX6_readStatement 40 = .ok (.goto (-25), 3) := by decide +kernel
theorem dX6_readStatement_43 : decode cX6_readStatement 43 = .ok (.aload_n 0, 1) := by decide +kernel
theorem dX6_readStatement_44 : decode cX6_readStatement 44 = .ok (.dup, 1) := by decide +kernel
theorem dX6_readStatement_45 : decode cX6_readStatement 45 = .ok (.getfield 29, 3) := by decide +kernel
theorem dX6_readStatement_48 : decode cX6_readStatement 48 = .ok (.iconst 1, 1) := by decide +kernel
theorem dX6_readStatement_49 : decode cX6_readStatement 49 = .ok (.iadd, 1) := by decide +kernel
theorem dX6_readStatement_50 : decode cX6_readStatement 50 = .ok (.putfield 29, 3) := by decide +kernel
theorem dX6_readStatement_53 : decode cX6_readStatement 53 = .ok (.aload_n 1, 1) := by decide +kernel
theorem dX6_readStatement_54 : decode cX6_readStatement 54 = .ok (.invokevirtual 63, 3) := by decide +kernel
theorem dX6_readStatement_57 : decode cX6_readStatement 57 = .ok (.ifCond .ne 7, 3) := by decide +kernel
theorem dX6_readStatement_60 : decode cX6_readStatement 60 = .ok (.iconst 1, 1) := by decide +kernel
theorem dX6_readStatement_61 : decode cX6_readStatement 61 = .ok (.goto 4, 3) := by decide +kernel
theorem dX6_readStatement_64 : decode cX6_readStatement 64 = .ok (.iconst 0, 1) := by decide +kernel
theorem dX6_readStatement_65 : decode cX6_readStatement 65 = .ok (.ireturn, 1) := by decide +kernel
theorem dX6_shapeOf_0 : decode cX6_shapeOf 0 = .ok (.iload_n 0, 1) := by decide +kernel
theorem dX6_shapeOf_1 : decode cX6_shapeOf 1 = .ok (.lookupswitch 66 #[(99, 54), (102, 63), (110, 51), (112, 60), (119, 57)], 51) := by decide +kernel
theorem dX6_shapeOf_52 : decode cX6_shapeOf 52 = .ok (.ldc 66, 2) := by decide +kernel
theorem dX6_shapeOf_54 : decode cX6_shapeOf 54 = .ok (.areturn, 1) := by decide +kernel
theorem dX6_shapeOf_55 : decode cX6_shapeOf 55 = .ok (.ldc 68, 2) := by decide +kernel
theorem dX6_shapeOf_57 : decode cX6_shapeOf 57 = .ok (.areturn, 1) := by decide +kernel
theorem dX6_shapeOf_58 : decode cX6_shapeOf 58 = .ok (.ldc 70, 2) := by decide +kernel
theorem dX6_shapeOf_60 : decode cX6_shapeOf 60 = .ok (.areturn, 1) := by decide +kernel
theorem dX6_shapeOf_61 : decode cX6_shapeOf 61 = .ok (.ldc 72, 2) := by decide +kernel
theorem dX6_shapeOf_63 : decode cX6_shapeOf 63 = .ok (.areturn, 1) := by decide +kernel
theorem dX6_shapeOf_64 : decode cX6_shapeOf 64 = .ok (.ldc 74, 2) := by decide +kernel
theorem dX6_shapeOf_66 : decode cX6_shapeOf 66 = .ok (.areturn, 1) := by decide +kernel
theorem dX6_shapeOf_67 : decode cX6_shapeOf 67 = .ok (.ldc 76, 2) := by decide +kernel
theorem dX6_shapeOf_69 : decode cX6_shapeOf 69 = .ok (.areturn, 1) := by decide +kernel
theorem dX6_readPart_0 : decode cX6_readPart 0 = .ok (.iload_n 1, 1) := by decide +kernel
theorem dX6_readPart_1 : decode cX6_readPart 1 = .ok (.bipush 35, 2) := by decide +kernel
theorem dX6_readPart_3 : decode cX6_readPart 3 = .ok (.if_icmp .ne 9, 3) := by decide +kernel
theorem dX6_readPart_6 : decode cX6_readPart 6 = .ok (.aload_n 0, 1) := by decide +kernel
theorem dX6_readPart_7 : decode cX6_readPart 7 = .ok (.iconst 3, 1) := by decide +kernel
theorem dX6_readPart_8 : decode cX6_readPart 8 = .ok (.invokevirtual 78, 3) := by decide +kernel
theorem dX6_readPart_11 : decode cX6_readPart 11 = .ok (.ireturn, 1) := by decide +kernel
theorem dX6_readPart_12 : decode cX6_readPart 12 = .ok (.iload_n 1, 1) := by decide +kernel
theorem dX6_readPart_13 : decode cX6_readPart 13 = .ok (.bipush 100, 2) := by decide +kernel
theorem dX6_readPart_15 : decode cX6_readPart 15 = .ok (.if_icmp .ne 9, 3) := by decide +kernel
theorem dX6_readPart_18 : decode cX6_readPart 18 = .ok (.aload_n 0, 1) := by decide +kernel
theorem dX6_readPart_19 : decode cX6_readPart 19 = .ok (.iconst 1, 1) := by decide +kernel
theorem dX6_readPart_20 : decode cX6_readPart 20 = .ok (.invokevirtual 78, 3) := by decide +kernel
theorem dX6_readPart_23 : decode cX6_readPart 23 = .ok (.ireturn, 1) := by decide +kernel
theorem dX6_readPart_24 : decode cX6_readPart 24 = .ok (.aload_n 0, 1) := by decide +kernel
theorem dX6_readPart_25 : decode cX6_readPart 25 = .ok (.invokevirtual 39, 3) := by decide +kernel
theorem dX6_readPart_28 : decode cX6_readPart 28 = .ok (.iload_n 1, 1) := by decide +kernel
theorem dX6_readPart_29 : decode cX6_readPart 29 = .ok (.if_icmp .eq 5, 3) := by decide +kernel
theorem dX6_readPart_32 : decode cX6_readPart 32 = .ok (.iconst 0, 1) := by decide +kernel
theorem dX6_readPart_33 : decode cX6_readPart 33 = .ok (.ireturn, 1) := by decide +kernel
theorem dX6_readPart_34 : decode cX6_readPart 34 = .ok (.aload_n 0, 1) := by decide +kernel
theorem dX6_readPart_35 : decode cX6_readPart 35 = .ok (.dup, 1) := by decide +kernel
theorem dX6_readPart_36 : decode cX6_readPart 36 = .ok (.getfield 19, 3) := by decide +kernel
theorem dX6_readPart_39 : decode cX6_readPart 39 = .ok (.iconst 1, 1) := by decide +kernel
theorem dX6_readPart_40 : decode cX6_readPart 40 = .ok (.iadd, 1) := by decide +kernel
theorem dX6_readPart_41 : decode cX6_readPart 41 = .ok (.putfield 19, 3) := by decide +kernel
theorem dX6_readPart_44 : decode cX6_readPart 44 = .ok (.iconst 1, 1) := by decide +kernel
theorem dX6_readPart_45 : decode cX6_readPart 45 = .ok (.ireturn, 1) := by decide +kernel
theorem dX6_readDigits_0 : decode cX6_readDigits 0 = .ok (.iconst 0, 1) := by decide +kernel
theorem dX6_readDigits_1 : decode cX6_readDigits 1 = .ok (.istore_n 2, 1) := by decide +kernel
theorem dX6_readDigits_2 : decode cX6_readDigits 2 = .ok (.iconst 0, 1) := by decide +kernel
theorem dX6_readDigits_3 : decode cX6_readDigits 3 = .ok (.istore_n 3, 1) := by decide +kernel
theorem dX6_readDigits_4 : decode cX6_readDigits 4 = .ok (.iload_n 3, 1) := by decide +kernel
theorem dX6_readDigits_5 : decode cX6_readDigits 5 = .ok (.iload_n 1, 1) := by decide +kernel
theorem dX6_readDigits_6 : decode cX6_readDigits 6 = .ok (.if_icmp .ge 50, 3) := by decide +kernel
theorem dX6_readDigits_9 : decode cX6_readDigits 9 = .ok (.aload_n 0, 1) := by decide +kernel
theorem dX6_readDigits_10 : decode cX6_readDigits 10 = .ok (.invokevirtual 39, 3) := by decide +kernel
theorem dX6_readDigits_13 : decode cX6_readDigits 13 = .ok (.invokestatic 82, 3) := by decide +kernel
theorem dX6_readDigits_16 : decode cX6_readDigits 16 = .ok (.ifCond .eq 40, 3) := by decide +kernel
theorem dX6_readDigits_19 : decode cX6_readDigits 19 = .ok (.iload_n 3, 1) := by decide +kernel
theorem dX6_readDigits_20 : decode cX6_readDigits 20 = .ok (.ifCond .eq 7, 3) := by decide +kernel
theorem dX6_readDigits_23 : decode cX6_readDigits 23 = .ok (.iload_n 2, 1) := by decide +kernel
theorem dX6_readDigits_24 : decode cX6_readDigits 24 = .ok (.ifCond .le 32, 3) := by decide +kernel
theorem dX6_readDigits_27 : decode cX6_readDigits 27 = .ok (.iload_n 2, 1) := by decide +kernel
theorem dX6_readDigits_28 : decode cX6_readDigits 28 = .ok (.bipush 10, 2) := by decide +kernel
theorem dX6_readDigits_30 : decode cX6_readDigits 30 = .ok (.imul, 1) := by decide +kernel
theorem dX6_readDigits_31 : decode cX6_readDigits 31 = .ok (.aload_n 0, 1) := by decide +kernel
theorem dX6_readDigits_32 : decode cX6_readDigits 32 = .ok (.invokevirtual 39, 3) := by decide +kernel
theorem dX6_readDigits_35 : decode cX6_readDigits 35 = .ok (.iadd, 1) := by decide +kernel
theorem dX6_readDigits_36 : decode cX6_readDigits 36 = .ok (.bipush 48, 2) := by decide +kernel
theorem dX6_readDigits_38 : decode cX6_readDigits 38 = .ok (.isub, 1) := by decide +kernel
theorem dX6_readDigits_39 : decode cX6_readDigits 39 = .ok (.istore_n 2, 1) := by decide +kernel
theorem dX6_readDigits_40 : decode cX6_readDigits 40 = .ok (.iinc 3 1, 3) := by decide +kernel
theorem dX6_readDigits_43 : decode cX6_readDigits 43 = .ok (.aload_n 0, 1) := by decide +kernel
theorem dX6_readDigits_44 : decode cX6_readDigits 44 = .ok (.dup, 1) := by decide +kernel
theorem dX6_readDigits_45 : decode cX6_readDigits 45 = .ok (.getfield 19, 3) := by decide +kernel
theorem dX6_readDigits_48 : decode cX6_readDigits 48 = .ok (.iconst 1, 1) := by decide +kernel
theorem dX6_readDigits_49 : decode cX6_readDigits 49 = .ok (.iadd, 1) := by decide +kernel
theorem dX6_readDigits_50 : decode cX6_readDigits 50 = .ok (.putfield 19, 3) := by decide +kernel
theorem dX6_readDigits_53 : decode cX6_readDigits 53 = .ok (.goto (-49), 3) := by decide +kernel
theorem dX6_readDigits_56 : decode cX6_readDigits 56 = .ok (.aload_n 0, 1) := by decide +kernel
theorem dX6_readDigits_57 : decode cX6_readDigits 57 = .ok (.getfield 23, 3) := by decide +kernel
theorem dX6_readDigits_60 : decode cX6_readDigits 60 = .ok (.aload_n 0, 1) := by decide +kernel
theorem dX6_readDigits_61 : decode cX6_readDigits 61 = .ok (.getfield 15, 3) := by decide +kernel
theorem dX6_readDigits_64 : decode cX6_readDigits 64 = .ok (.arraylength, 1) := by decide +kernel
theorem dX6_readDigits_65 : decode cX6_readDigits 65 = .ok (.if_icmp .ge 23, 3) := by decide +kernel
theorem dX6_readDigits_68 : decode cX6_readDigits 68 = .ok (.aload_n 0, 1) := by decide +kernel
theorem dX6_readDigits_69 : decode cX6_readDigits 69 = .ok (.getfield 15, 3) := by decide +kernel
theorem dX6_readDigits_72 : decode cX6_readDigits 72 = .ok (.aload_n 0, 1) := by decide +kernel
theorem dX6_readDigits_73 : decode cX6_readDigits 73 = .ok (.getfield 23, 3) := by decide +kernel
theorem dX6_readDigits_76 : decode cX6_readDigits 76 = .ok (.iload_n 2, 1) := by decide +kernel
theorem dX6_readDigits_77 : decode cX6_readDigits 77 = .ok (.iastore, 1) := by decide +kernel
theorem dX6_readDigits_78 : decode cX6_readDigits 78 = .ok (.aload_n 0, 1) := by decide +kernel
theorem dX6_readDigits_79 : decode cX6_readDigits 79 = .ok (.dup, 1) := by decide +kernel
theorem dX6_readDigits_80 : decode cX6_readDigits 80 = .ok (.getfield 23, 3) := by decide +kernel
theorem dX6_readDigits_83 : decode cX6_readDigits 83 = .ok (.iconst 1, 1) := by decide +kernel
theorem dX6_readDigits_84 : decode cX6_readDigits 84 = .ok (.iadd, 1) := by decide +kernel
theorem dX6_readDigits_85 : decode cX6_readDigits 85 = .ok (.putfield 23, 3) := by decide +kernel
theorem dX6_readDigits_88 : decode cX6_readDigits 88 = .ok (.iload_n 3, 1) := by decide +kernel
theorem dX6_readDigits_89 : decode cX6_readDigits 89 = .ok (.ifCond .le 7, 3) := by decide +kernel
theorem dX6_readDigits_92 : decode cX6_readDigits 92 = .ok (.iconst 1, 1) := by decide +kernel
theorem dX6_readDigits_93 : decode cX6_readDigits 93 = .ok (.goto 4, 3) := by decide +kernel
theorem dX6_readDigits_96 : decode cX6_readDigits 96 = .ok (.iconst 0, 1) := by decide +kernel
theorem dX6_readDigits_97 : decode cX6_readDigits 97 = .ok (.ireturn, 1) := by decide +kernel
theorem dX6_signAhead_0 : decode cX6_signAhead 0 = .ok (.aload_n 0, 1) := by decide +kernel
theorem dX6_signAhead_1 : decode cX6_signAhead 1 = .ok (.getfield 19, 3) := by decide +kernel
theorem dX6_signAhead_4 : decode cX6_signAhead 4 = .ok (.ifCond .lt 39, 3) := by decide +kernel
theorem dX6_signAhead_7 : decode cX6_signAhead 7 = .ok (.aload_n 0, 1) := by decide +kernel
theorem dX6_signAhead_8 : decode cX6_signAhead 8 = .ok (.getfield 19, 3) := by decide +kernel
theorem dX6_signAhead_11 : decode cX6_signAhead 11 = .ok (.aload_n 0, 1) := by decide +kernel
theorem dX6_signAhead_12 : decode cX6_signAhead 12 = .ok (.getfield 26, 3) := by decide +kernel
theorem dX6_signAhead_15 : decode cX6_signAhead 15 = .ok (.if_icmp .ge 28, 3) := by decide +kernel
theorem dX6_signAhead_18 : decode cX6_signAhead 18 = .ok (.aload_n 0, 1) := by decide +kernel
theorem dX6_signAhead_19 : decode cX6_signAhead 19 = .ok (.getfield 19, 3) := by decide +kernel
theorem dX6_signAhead_22 : decode cX6_signAhead 22 = .ok (.bipush 64, 2) := by decide +kernel
theorem dX6_signAhead_24 : decode cX6_signAhead 24 = .ok (.if_icmp .ge 19, 3) := by decide +kernel
theorem dX6_signAhead_27 : decode cX6_signAhead 27 = .ok (.aload_n 0, 1) := by decide +kernel
theorem dX6_signAhead_28 : decode cX6_signAhead 28 = .ok (.getfield 9, 3) := by decide +kernel
theorem dX6_signAhead_31 : decode cX6_signAhead 31 = .ok (.aload_n 0, 1) := by decide +kernel
theorem dX6_signAhead_32 : decode cX6_signAhead 32 = .ok (.getfield 19, 3) := by decide +kernel
theorem dX6_signAhead_35 : decode cX6_signAhead 35 = .ok (.baload, 1) := by decide +kernel
theorem dX6_signAhead_36 : decode cX6_signAhead 36 = .ok (.sipush 255, 3) := by decide +kernel
theorem dX6_signAhead_39 : decode cX6_signAhead 39 = .ok (.iand, 1) := by decide +kernel
theorem dX6_signAhead_40 : decode cX6_signAhead 40 = .ok (.goto 4, 3) := by decide +kernel
theorem dX6_signAhead_43 : decode cX6_signAhead 43 = .ok (.iconst (-1), 1) := by decide +kernel
theorem dX6_signAhead_44 : decode cX6_signAhead 44 = .ok (.ireturn, 1) := by decide +kernel
theorem dX6_isDigit_0 : decode cX6_isDigit 0 = .ok (.iload_n 0, 1) := by decide +kernel
theorem dX6_isDigit_1 : decode cX6_isDigit 1 = .ok (.bipush 48, 2) := by decide +kernel
theorem dX6_isDigit_3 : decode cX6_isDigit 3 = .ok (.if_icmp .lt 13, 3) := by decide +kernel
theorem dX6_isDigit_6 : decode cX6_isDigit 6 = .ok (.iload_n 0, 1) := by decide +kernel
theorem dX6_isDigit_7 : decode cX6_isDigit 7 = .ok (.bipush 57, 2) := by decide +kernel
theorem dX6_isDigit_9 : decode cX6_isDigit 9 = .ok (.if_icmp .gt 7, 3) := by decide +kernel
theorem dX6_isDigit_12 : decode cX6_isDigit 12 = .ok (.iconst 1, 1) := by decide +kernel
theorem dX6_isDigit_13 : decode cX6_isDigit 13 = .ok (.goto 4, 3) := by decide +kernel
theorem dX6_isDigit_16 : decode cX6_isDigit 16 = .ok (.iconst 0, 1) := by decide +kernel
theorem dX6_isDigit_17 : decode cX6_isDigit 17 = .ok (.ireturn, 1) := by decide +kernel
theorem dX6_comesTrue_0 : decode cX6_comesTrue 0 = .ok (.iload_n 1, 1) := by decide +kernel
theorem dX6_comesTrue_1 : decode cX6_comesTrue 1 = .ok (.lookupswitch 67 #[(99, 49), (110, 43), (112, 61), (119, 55)], 43) := by decide +kernel
theorem dX6_comesTrue_44 : decode cX6_comesTrue 44 = .ok (.aload_n 0, 1) := by decide +kernel
theorem dX6_comesTrue_45 : decode cX6_comesTrue 45 = .ok (.aload_n 2, 1) := by decide +kernel
theorem dX6_comesTrue_46 : decode cX6_comesTrue 46 = .ok (.invokevirtual 85, 3) := by decide +kernel
theorem dX6_comesTrue_49 : decode cX6_comesTrue 49 = .ok (.ireturn, 1) := by decide +kernel
theorem dX6_comesTrue_50 : decode cX6_comesTrue 50 = .ok (.aload_n 0, 1) := by decide +kernel
theorem dX6_comesTrue_51 : decode cX6_comesTrue 51 = .ok (.aload_n 2, 1) := by decide +kernel
theorem dX6_comesTrue_52 : decode cX6_comesTrue 52 = .ok (.invokevirtual 89, 3) := by decide +kernel
theorem dX6_comesTrue_55 : decode cX6_comesTrue 55 = .ok (.ireturn, 1) := by decide +kernel
theorem dX6_comesTrue_56 : decode cX6_comesTrue 56 = .ok (.aload_n 0, 1) := by decide +kernel
theorem dX6_comesTrue_57 : decode cX6_comesTrue 57 = .ok (.aload_n 2, 1) := by decide +kernel
theorem dX6_comesTrue_58 : decode cX6_comesTrue 58 = .ok (.invokevirtual 92, 3) := by decide +kernel
theorem dX6_comesTrue_61 : decode cX6_comesTrue 61 = .ok (.ireturn, 1) := by decide +kernel
theorem dX6_comesTrue_62 : decode cX6_comesTrue 62 = .ok (.aload_n 0, 1) := by decide +kernel
theorem dX6_comesTrue_63 : decode cX6_comesTrue 63 = .ok (.aload_n 2, 1) := by decide +kernel
theorem dX6_comesTrue_64 : decode cX6_comesTrue 64 = .ok (.invokevirtual 95, 3) := by decide +kernel
theorem dX6_comesTrue_67 : decode cX6_comesTrue 67 = .ok (.ireturn, 1) := by decide +kernel
theorem dX6_comesTrue_68 : decode cX6_comesTrue 68 = .ok (.aload_n 0, 1) := by decide +kernel
theorem dX6_comesTrue_69 : decode cX6_comesTrue 69 = .ok (.aload_n 2, 1) := by decide +kernel
theorem dX6_comesTrue_70 : decode cX6_comesTrue 70 = .ok (.invokevirtual 98, 3) := by decide +kernel
theorem dX6_comesTrue_73 : decode cX6_comesTrue 73 = .ok (.ireturn, 1) := by decide +kernel
theorem dX6_resize_0 : decode cX6_resize 0 = .ok (.aload_n 0, 1) := by decide +kernel
theorem dX6_resize_1 : decode cX6_resize 1 = .ok (.getfield 15, 3) := by decide +kernel
theorem dX6_resize_4 : decode cX6_resize 4 = .ok (.iconst 0, 1) := by decide +kernel
theorem dX6_resize_5 : decode cX6_resize 5 = .ok (.iaload, 1) := by decide +kernel
theorem dX6_resize_6 : decode cX6_resize 6 = .ok (.iconst 4, 1) := by decide +kernel
theorem dX6_resize_7 : decode cX6_resize 7 = .ok (.bipush 60, 2) := by decide +kernel
theorem dX6_resize_9 : decode cX6_resize 9 = .ok (.invokestatic 101, 3) := by decide +kernel
theorem dX6_resize_12 : decode cX6_resize 12 = .ok (.ifCond .ne 24, 3) := by decide +kernel
theorem dX6_resize_15 : decode cX6_resize 15 = .ok (.aload_n 1, 1) := by decide +kernel
theorem dX6_resize_16 : decode cX6_resize 16 = .ok (.getfield 105, 3) := by decide +kernel
theorem dX6_resize_19 : decode cX6_resize 19 = .ok (.getfield 111, 3) := by decide +kernel
theorem dX6_resize_22 : decode cX6_resize 22 = .ok (.ifCond .ne 14, 3) := by decide +kernel
theorem dX6_resize_25 : decode cX6_resize 25 = .ok (.aload_n 1, 1) := by decide +kernel
theorem dX6_resize_26 : decode cX6_resize 26 = .ok (.getfield 116, 3) := by decide +kernel
theorem dX6_resize_29 : decode cX6_resize 29 = .ok (.ifCond .ne 7, 3) := by decide +kernel
theorem dX6_resize_32 : decode cX6_resize 32 = .ok (.iconst 1, 1) := by decide +kernel
theorem dX6_resize_33 : decode cX6_resize 33 = .ok (.goto 4, 3) := by decide +kernel
theorem dX6_resize_36 : decode cX6_resize 36 = .ok (.iconst 0, 1) := by decide +kernel
theorem dX6_resize_37 : decode cX6_resize 37 = .ok (.istore_n 2, 1) := by decide +kernel
theorem dX6_resize_38 : decode cX6_resize 38 = .ok (.iload_n 2, 1) := by decide +kernel
theorem dX6_resize_39 : decode cX6_resize 39 = .ok (.ifCond .eq 16, 3) := by decide +kernel
theorem dX6_resize_42 : decode cX6_resize 42 = .ok (.aload_n 1, 1) := by decide +kernel
theorem dX6_resize_43 : decode cX6_resize 43 = .ok (.getfield 105, 3) := by decide +kernel
theorem dX6_resize_46 : decode cX6_resize 46 = .ok (.aload_n 0, 1) := by decide +kernel
theorem dX6_resize_47 : decode cX6_resize 47 = .ok (.getfield 15, 3) := by decide +kernel
theorem dX6_resize_50 : decode cX6_resize 50 = .ok (.iconst 0, 1) := by decide +kernel
theorem dX6_resize_51 : decode cX6_resize 51 = .ok (.iaload, 1) := by decide +kernel
theorem dX6_resize_52 : decode cX6_resize 52 = .ok (.putfield 119, 3) := by decide +kernel
theorem dX6_resize_55 : decode cX6_resize 55 = .ok (.iload_n 2, 1) := by decide +kernel
theorem dX6_resize_56 : decode cX6_resize 56 = .ok (.ireturn, 1) := by decide +kernel
theorem dX6_seatMore_0 : decode cX6_seatMore 0 = .ok (.aload_n 1, 1) := by decide +kernel
theorem dX6_seatMore_1 : decode cX6_seatMore 1 = .ok (.aload_n 0, 1) := by decide +kernel
theorem dX6_seatMore_2 : decode cX6_seatMore 2 = .ok (.getfield 15, 3) := by decide +kernel
theorem dX6_seatMore_5 : decode cX6_seatMore 5 = .ok (.iconst 0, 1) := by decide +kernel
theorem dX6_seatMore_6 : decode cX6_seatMore 6 = .ok (.iaload, 1) := by decide +kernel
theorem dX6_seatMore_7 : decode cX6_seatMore 7 = .ok (.invokevirtual 122, 3) := by decide +kernel
theorem dX6_seatMore_10 : decode cX6_seatMore 10 = .ok (.ifCond .ne 7, 3) := by decide +kernel
theorem dX6_seatMore_13 : decode cX6_seatMore 13 = .ok (.iconst 1, 1) := by decide +kernel
theorem dX6_seatMore_14 : decode cX6_seatMore 14 = .ok (.goto 4, 3) := by decide +kernel
theorem dX6_seatMore_17 : decode cX6_seatMore 17 = .ok (.iconst 0, 1) := by decide +kernel
theorem dX6_seatMore_18 : decode cX6_seatMore 18 = .ok (.istore_n 2, 1) := by decide +kernel
theorem dX6_seatMore_19 : decode cX6_seatMore 19 = .ok (.iload_n 2, 1) := by decide +kernel
theorem dX6_seatMore_20 : decode cX6_seatMore 20 = .ok (.ifCond .eq 14, 3) := by decide +kernel
theorem dX6_seatMore_23 : decode cX6_seatMore 23 = .ok (.aload_n 1, 1) := by decide +kernel
theorem dX6_seatMore_24 : decode cX6_seatMore 24 = .ok (.aload_n 0, 1) := by decide +kernel
theorem dX6_seatMore_25 : decode cX6_seatMore 25 = .ok (.getfield 15, 3) := by decide +kernel
theorem dX6_seatMore_28 : decode cX6_seatMore 28 = .ok (.iconst 0, 1) := by decide +kernel
theorem dX6_seatMore_29 : decode cX6_seatMore 29 = .ok (.iaload, 1) := by decide +kernel
theorem dX6_seatMore_30 : decode cX6_seatMore 30 = .ok (.invokevirtual 126, 3) := by decide +kernel
theorem dX6_seatMore_33 : decode cX6_seatMore 33 = .ok (.pop, 1) := by decide +kernel
theorem dX6_seatMore_34 : decode cX6_seatMore 34 = .ok (.iload_n 2, 1) := by decide +kernel
theorem dX6_seatMore_35 : decode cX6_seatMore 35 = .ok (.ireturn, 1) := by decide +kernel
theorem dX6_walkerMore_0 : decode cX6_walkerMore 0 = .ok (.aload_n 1, 1) := by decide +kernel
theorem dX6_walkerMore_1 : decode cX6_walkerMore 1 = .ok (.aload_n 0, 1) := by decide +kernel
theorem dX6_walkerMore_2 : decode cX6_walkerMore 2 = .ok (.getfield 15, 3) := by decide +kernel
theorem dX6_walkerMore_5 : decode cX6_walkerMore 5 = .ok (.iconst 0, 1) := by decide +kernel
theorem dX6_walkerMore_6 : decode cX6_walkerMore 6 = .ok (.iaload, 1) := by decide +kernel
theorem dX6_walkerMore_7 : decode cX6_walkerMore 7 = .ok (.aload_n 0, 1) := by decide +kernel
theorem dX6_walkerMore_8 : decode cX6_walkerMore 8 = .ok (.getfield 15, 3) := by decide +kernel
theorem dX6_walkerMore_11 : decode cX6_walkerMore 11 = .ok (.iconst 1, 1) := by decide +kernel
theorem dX6_walkerMore_12 : decode cX6_walkerMore 12 = .ok (.iaload, 1) := by decide +kernel
theorem dX6_walkerMore_13 : decode cX6_walkerMore 13 = .ok (.aload_n 0, 1) := by decide +kernel
theorem dX6_walkerMore_14 : decode cX6_walkerMore 14 = .ok (.getfield 15, 3) := by decide +kernel
theorem dX6_walkerMore_17 : decode cX6_walkerMore 17 = .ok (.iconst 2, 1) := by decide +kernel
theorem dX6_walkerMore_18 : decode cX6_walkerMore 18 = .ok (.iaload, 1) := by decide +kernel
theorem dX6_walkerMore_19 : decode cX6_walkerMore 19 = .ok (.invokevirtual 129, 3) := by decide +kernel
theorem dX6_walkerMore_22 : decode cX6_walkerMore 22 = .ok (.ifCond .ne 7, 3) := by decide +kernel
theorem dX6_walkerMore_25 : decode cX6_walkerMore 25 = .ok (.iconst 1, 1) := by decide +kernel
theorem dX6_walkerMore_26 : decode cX6_walkerMore 26 = .ok (.goto 4, 3) := by decide +kernel
theorem dX6_walkerMore_29 : decode cX6_walkerMore 29 = .ok (.iconst 0, 1) := by decide +kernel
theorem dX6_walkerMore_30 : decode cX6_walkerMore 30 = .ok (.istore_n 2, 1) := by decide +kernel
theorem dX6_walkerMore_31 : decode cX6_walkerMore 31 = .ok (.iload_n 2, 1) := by decide +kernel
theorem dX6_walkerMore_32 : decode cX6_walkerMore 32 = .ok (.ifCond .eq 26, 3) := by decide +kernel
theorem dX6_walkerMore_35 : decode cX6_walkerMore 35 = .ok (.aload_n 1, 1) := by decide +kernel
theorem dX6_walkerMore_36 : decode cX6_walkerMore 36 = .ok (.aload_n 0, 1) := by decide +kernel
theorem dX6_walkerMore_37 : decode cX6_walkerMore 37 = .ok (.getfield 15, 3) := by decide +kernel
theorem dX6_walkerMore_40 : decode cX6_walkerMore 40 = .ok (.iconst 0, 1) := by decide +kernel
theorem dX6_walkerMore_41 : decode cX6_walkerMore 41 = .ok (.iaload, 1) := by decide +kernel
theorem dX6_walkerMore_42 : decode cX6_walkerMore 42 = .ok (.aload_n 0, 1) := by decide +kernel
theorem dX6_walkerMore_43 : decode cX6_walkerMore 43 = .ok (.getfield 15, 3) := by decide +kernel
theorem dX6_walkerMore_46 : decode cX6_walkerMore 46 = .ok (.iconst 1, 1) := by decide +kernel
theorem dX6_walkerMore_47 : decode cX6_walkerMore 47 = .ok (.iaload, 1) := by decide +kernel
theorem dX6_walkerMore_48 : decode cX6_walkerMore 48 = .ok (.aload_n 0, 1) := by decide +kernel
theorem dX6_walkerMore_49 : decode cX6_walkerMore 49 = .ok (.getfield 15, 3) := by decide +kernel
theorem dX6_walkerMore_52 : decode cX6_walkerMore 52 = .ok (.iconst 2, 1) := by decide +kernel
theorem dX6_walkerMore_53 : decode cX6_walkerMore 53 = .ok (.iaload, 1) := by decide +kernel
theorem dX6_walkerMore_54 : decode cX6_walkerMore 54 = .ok (.invokevirtual 132, 3) := by decide +kernel
theorem dX6_walkerMore_57 : decode cX6_walkerMore 57 = .ok (.pop, 1) := by decide +kernel
theorem dX6_walkerMore_58 : decode cX6_walkerMore 58 = .ok (.iload_n 2, 1) := by decide +kernel
theorem dX6_walkerMore_59 : decode cX6_walkerMore 59 = .ok (.ireturn, 1) := by decide +kernel
theorem dX6_newPlayer_0 : decode cX6_newPlayer 0 = .ok (.aload_n 1, 1) := by decide +kernel
theorem dX6_newPlayer_1 : decode cX6_newPlayer 1 = .ok (.getfield 135, 3) := by decide +kernel
theorem dX6_newPlayer_4 : decode cX6_newPlayer 4 = .ok (.aload_n 0, 1) := by decide +kernel
theorem dX6_newPlayer_5 : decode cX6_newPlayer 5 = .ok (.getfield 15, 3) := by decide +kernel
theorem dX6_newPlayer_8 : decode cX6_newPlayer 8 = .ok (.iconst 0, 1) := by decide +kernel
theorem dX6_newPlayer_9 : decode cX6_newPlayer 9 = .ok (.iaload, 1) := by decide +kernel
theorem dX6_newPlayer_10 : decode cX6_newPlayer 10 = .ok (.aload_n 0, 1) := by decide +kernel
theorem dX6_newPlayer_11 : decode cX6_newPlayer 11 = .ok (.getfield 15, 3) := by decide +kernel
theorem dX6_newPlayer_14 : decode cX6_newPlayer 14 = .ok (.iconst 1, 1) := by decide +kernel
theorem dX6_newPlayer_15 : decode cX6_newPlayer 15 = .ok (.iaload, 1) := by decide +kernel
theorem dX6_newPlayer_16 : decode cX6_newPlayer 16 = .ok (.invokevirtual 139, 3) := by decide +kernel
theorem dX6_newPlayer_19 : decode cX6_newPlayer 19 = .ok (.ifCond .ne 7, 3) := by decide +kernel
theorem dX6_newPlayer_22 : decode cX6_newPlayer 22 = .ok (.iconst 1, 1) := by decide +kernel
theorem dX6_newPlayer_23 : decode cX6_newPlayer 23 = .ok (.goto 4, 3) := by decide +kernel
theorem dX6_newPlayer_26 : decode cX6_newPlayer 26 = .ok (.iconst 0, 1) := by decide +kernel
theorem dX6_newPlayer_27 : decode cX6_newPlayer 27 = .ok (.istore_n 2, 1) := by decide +kernel
theorem dX6_newPlayer_28 : decode cX6_newPlayer 28 = .ok (.iload_n 2, 1) := by decide +kernel
theorem dX6_newPlayer_29 : decode cX6_newPlayer 29 = .ok (.ifCond .eq 29, 3) := by decide +kernel
theorem dX6_newPlayer_32 : decode cX6_newPlayer 32 = .ok (.aload_n 1, 1) := by decide +kernel
theorem dX6_newPlayer_33 : decode cX6_newPlayer 33 = .ok (.getfield 135, 3) := by decide +kernel
theorem dX6_newPlayer_36 : decode cX6_newPlayer 36 = .ok (.aload_n 0, 1) := by decide +kernel
theorem dX6_newPlayer_37 : decode cX6_newPlayer 37 = .ok (.getfield 15, 3) := by decide +kernel
theorem dX6_newPlayer_40 : decode cX6_newPlayer 40 = .ok (.iconst 0, 1) := by decide +kernel
theorem dX6_newPlayer_41 : decode cX6_newPlayer 41 = .ok (.iaload, 1) := by decide +kernel
theorem dX6_newPlayer_42 : decode cX6_newPlayer 42 = .ok (.putfield 145, 3) := by decide +kernel
theorem dX6_newPlayer_45 : decode cX6_newPlayer 45 = .ok (.aload_n 1, 1) := by decide +kernel
theorem dX6_newPlayer_46 : decode cX6_newPlayer 46 = .ok (.getfield 135, 3) := by decide +kernel
theorem dX6_newPlayer_49 : decode cX6_newPlayer 49 = .ok (.aload_n 0, 1) := by decide +kernel
theorem dX6_newPlayer_50 : decode cX6_newPlayer 50 = .ok (.getfield 15, 3) := by decide +kernel
theorem dX6_newPlayer_53 : decode cX6_newPlayer 53 = .ok (.iconst 1, 1) := by decide +kernel
theorem dX6_newPlayer_54 : decode cX6_newPlayer 54 = .ok (.iaload, 1) := by decide +kernel
theorem dX6_newPlayer_55 : decode cX6_newPlayer 55 = .ok (.putfield 148, 3) := by decide +kernel
theorem dX6_newPlayer_58 : decode cX6_newPlayer 58 = .ok (.iload_n 2, 1) := by decide +kernel
theorem dX6_newPlayer_59 : decode cX6_newPlayer 59 = .ok (.ireturn, 1) := by decide +kernel
theorem dX6_newForm_0 : decode cX6_newForm 0 = .ok (.aload_n 0, 1) := by decide +kernel
theorem dX6_newForm_1 : decode cX6_newForm 1 = .ok (.getfield 15, 3) := by decide +kernel
theorem dX6_newForm_4 : decode cX6_newForm 4 = .ok (.iconst 0, 1) := by decide +kernel
theorem dX6_newForm_5 : decode cX6_newForm 5 = .ok (.iaload, 1) := by decide +kernel
theorem dX6_newForm_6 : decode cX6_newForm 6 = .ok (.iconst 0, 1) := by decide +kernel
theorem dX6_newForm_7 : decode cX6_newForm 7 = .ok (.iconst 2, 1) := by decide +kernel
theorem dX6_newForm_8 : decode cX6_newForm 8 = .ok (.invokestatic 101, 3) := by decide +kernel
theorem dX6_newForm_11 : decode cX6_newForm 11 = .ok (.ifCond .ne 7, 3) := by decide +kernel
theorem dX6_newForm_14 : decode cX6_newForm 14 = .ok (.iconst 1, 1) := by decide +kernel
theorem dX6_newForm_15 : decode cX6_newForm 15 = .ok (.goto 4, 3) := by decide +kernel
theorem dX6_newForm_18 : decode cX6_newForm 18 = .ok (.iconst 0, 1) := by decide +kernel
theorem dX6_newForm_19 : decode cX6_newForm 19 = .ok (.istore_n 2, 1) := by decide +kernel
theorem dX6_newForm_20 : decode cX6_newForm 20 = .ok (.iload_n 2, 1) := by decide +kernel
theorem dX6_newForm_21 : decode cX6_newForm 21 = .ok (.ifCond .eq 13, 3) := by decide +kernel
theorem dX6_newForm_24 : decode cX6_newForm 24 = .ok (.aload_n 1, 1) := by decide +kernel
theorem dX6_newForm_25 : decode cX6_newForm 25 = .ok (.aload_n 0, 1) := by decide +kernel
theorem dX6_newForm_26 : decode cX6_newForm 26 = .ok (.getfield 15, 3) := by decide +kernel
theorem dX6_newForm_29 : decode cX6_newForm 29 = .ok (.iconst 0, 1) := by decide +kernel
theorem dX6_newForm_30 : decode cX6_newForm 30 = .ok (.iaload, 1) := by decide +kernel
theorem dX6_newForm_31 : decode cX6_newForm 31 = .ok (.putfield 151, 3) := by decide +kernel
theorem dX6_newForm_34 : decode cX6_newForm 34 = .ok (.iload_n 2, 1) := by decide +kernel
theorem dX6_newForm_35 : decode cX6_newForm 35 = .ok (.ireturn, 1) := by decide +kernel
theorem dX7_init_0 : decode cX7_init 0 = .ok (.aload_n 0, 1) := by decide +kernel
theorem dX7_init_1 : decode cX7_init 1 = .ok (.invokespecial 1, 3) := by decide +kernel
theorem dX7_init_4 : decode cX7_init 4 = .ok (.aload_n 0, 1) := by decide +kernel
theorem dX7_init_5 : decode cX7_init 5 = .ok (.iconst 0, 1) := by decide +kernel
theorem dX7_init_6 : decode cX7_init 6 = .ok (.putfield 7, 3) := by decide +kernel
theorem dX7_init_9 : decode cX7_init 9 = .ok (.aload_n 0, 1) := by decide +kernel
theorem dX7_init_10 : decode cX7_init 10 = .ok (.iconst 0, 1) := by decide +kernel
theorem dX7_init_11 : decode cX7_init 11 = .ok (.putfield 13, 3) := by decide +kernel
theorem dX7_init_14 : decode cX7_init 14 = .ok (.aload_n 0, 1) := by decide +kernel
theorem dX7_init_15 : decode cX7_init 15 = .ok (.iconst 0, 1) := by decide +kernel
theorem dX7_init_16 : decode cX7_init 16 = .ok (.putfield 16, 3) := by decide +kernel
theorem dX7_init_19 : decode cX7_init 19 = .ok (.aload_n 0, 1) := by decide +kernel
theorem dX7_init_20 : decode cX7_init 20 = .ok (.iconst 0, 1) := by decide +kernel
theorem dX7_init_21 : decode cX7_init 21 = .ok (.putfield 20, 3) := by decide +kernel
theorem dX7_init_24 : decode cX7_init 24 = .ok (.aload_n 0, 1) := by decide +kernel
theorem dX7_init_25 : decode cX7_init 25 = .ok (.iconst 1, 1) := by decide +kernel
theorem dX7_init_26 : decode cX7_init 26 = .ok (.putfield 23, 3) := by decide +kernel
theorem dX7_init_29 : decode cX7_init 29 = .ok (.aload_n 0, 1) := by decide +kernel
theorem dX7_init_30 : decode cX7_init 30 = .ok (.iconst 1, 1) := by decide +kernel
theorem dX7_init_31 : decode cX7_init 31 = .ok (.putfield 26, 3) := by decide +kernel
theorem dX7_init_34 : decode cX7_init 34 = .ok (.aload_n 0, 1) := by decide +kernel
theorem dX7_init_35 : decode cX7_init 35 = .ok (.iconst 0, 1) := by decide +kernel
theorem dX7_init_36 : decode cX7_init 36 = .ok (.putfield 29, 3) := by decide +kernel
theorem dX7_init_39 : decode cX7_init 39 = .ok (.aload_n 0, 1) := by decide +kernel
theorem dX7_init_40 : decode cX7_init 40 = .ok (.iconst 0, 1) := by decide +kernel
theorem dX7_init_41 : decode cX7_init 41 = .ok (.putfield 32, 3) := by decide +kernel
theorem dX7_init_44 : decode cX7_init 44 = .ok (.aload_n 0, 1) := by decide +kernel
theorem dX7_init_45 : decode cX7_init 45 = .ok (.iconst 0, 1) := by decide +kernel
theorem dX7_init_46 : decode cX7_init 46 = .ok (.putfield 35, 3) := by decide +kernel
theorem dX7_init_49 : decode cX7_init 49 = .ok (.return_, 1) := by decide +kernel
theorem dX7_arrive_0 : decode cX7_arrive 0 = .ok (.aload_n 0, 1) := by decide +kernel
theorem dX7_arrive_1 : decode cX7_arrive 1 = .ok (.iload_n 1, 1) := by decide +kernel
theorem dX7_arrive_2 : decode cX7_arrive 2 = .ok (.putfield 7, 3) := by decide +kernel
theorem dX7_arrive_5 : decode cX7_arrive 5 = .ok (.aload_n 0, 1) := by decide +kernel
theorem dX7_arrive_6 : decode cX7_arrive 6 = .ok (.iconst 0, 1) := by decide +kernel
theorem dX7_arrive_7 : decode cX7_arrive 7 = .ok (.putfield 13, 3) := by decide +kernel
theorem dX7_arrive_10 : decode cX7_arrive 10 = .ok (.aload_n 0, 1) := by decide +kernel
theorem dX7_arrive_11 : decode cX7_arrive 11 = .ok (.iconst 1, 1) := by decide +kernel
theorem dX7_arrive_12 : decode cX7_arrive 12 = .ok (.putfield 16, 3) := by decide +kernel
theorem dX7_arrive_15 : decode cX7_arrive 15 = .ok (.aload_n 0, 1) := by decide +kernel
theorem dX7_arrive_16 : decode cX7_arrive 16 = .ok (.iload_n 2, 1) := by decide +kernel
theorem dX7_arrive_17 : decode cX7_arrive 17 = .ok (.putfield 20, 3) := by decide +kernel
theorem dX7_arrive_20 : decode cX7_arrive 20 = .ok (.aload_n 0, 1) := by decide +kernel
theorem dX7_arrive_21 : decode cX7_arrive 21 = .ok (.iload_n 3, 1) := by decide +kernel
theorem dX7_arrive_22 : decode cX7_arrive 22 = .ok (.putfield 23, 3) := by decide +kernel
theorem dX7_arrive_25 : decode cX7_arrive 25 = .ok (.aload_n 0, 1) := by decide +kernel
theorem dX7_arrive_26 : decode cX7_arrive 26 = .ok (.iload_n 3, 1) := by decide +kernel
theorem dX7_arrive_27 : decode cX7_arrive 27 = .ok (.iconst 2, 1) := by decide +kernel
theorem dX7_arrive_28 : decode cX7_arrive 28 = .ok (.if_icmp .ge 7, 3) := by decide +kernel
theorem dX7_arrive_31 : decode cX7_arrive 31 = .ok (.iconst 1, 1) := by decide +kernel
theorem dX7_arrive_32 : decode cX7_arrive 32 = .ok (.goto 6, 3) := by decide +kernel
theorem dX7_arrive_35 : decode cX7_arrive 35 = .ok (.iload_n 3, 1) := by decide +kernel
theorem dX7_arrive_36 : decode cX7_arrive 36 = .ok (.iconst 2, 1) := by decide +kernel
theorem dX7_arrive_37 : decode cX7_arrive 37 = .ok (.idiv, 1) := by decide +kernel
theorem dX7_arrive_38 : decode cX7_arrive 38 = .ok (.putfield 26, 3) := by decide +kernel
theorem dX7_arrive_41 : decode cX7_arrive 41 = .ok (.aload_n 0, 1) := by decide +kernel
theorem dX7_arrive_42 : decode cX7_arrive 42 = .ok (.bipush 9, 2) := by decide +kernel
theorem dX7_arrive_44 : decode cX7_arrive 44 = .ok (.putfield 29, 3) := by decide +kernel
theorem dX7_arrive_47 : decode cX7_arrive 47 = .ok (.aload_n 0, 1) := by decide +kernel
theorem dX7_arrive_48 : decode cX7_arrive 48 = .ok (.iconst 5, 1) := by decide +kernel
theorem dX7_arrive_49 : decode cX7_arrive 49 = .ok (.putfield 32, 3) := by decide +kernel
theorem dX7_arrive_52 : decode cX7_arrive 52 = .ok (.aload_n 0, 1) := by decide +kernel
theorem dX7_arrive_53 : decode cX7_arrive 53 = .ok (.iconst 5, 1) := by decide +kernel
theorem dX7_arrive_54 : decode cX7_arrive 54 = .ok (.putfield 35, 3) := by decide +kernel
theorem dX7_arrive_57 : decode cX7_arrive 57 = .ok (.return_, 1) := by decide +kernel
theorem dX7_become_0 : decode cX7_become 0 = .ok (.aload_n 0, 1) := by decide +kernel
theorem dX7_become_1 : decode cX7_become 1 = .ok (.aload_n 1, 1) := by decide +kernel
theorem dX7_become_2 : decode cX7_become 2 = .ok (.getfield 7, 3) := by decide +kernel
theorem dX7_become_5 : decode cX7_become 5 = .ok (.putfield 7, 3) := by decide +kernel
theorem dX7_become_8 : decode cX7_become 8 = .ok (.aload_n 0, 1) := by decide +kernel
theorem dX7_become_9 : decode cX7_become 9 = .ok (.aload_n 1, 1) := by decide +kernel
theorem dX7_become_10 : decode cX7_become 10 = .ok (.getfield 13, 3) := by decide +kernel
theorem dX7_become_13 : decode cX7_become 13 = .ok (.putfield 13, 3) := by decide +kernel
theorem dX7_become_16 : decode cX7_become 16 = .ok (.aload_n 0, 1) := by decide +kernel
theorem dX7_become_17 : decode cX7_become 17 = .ok (.aload_n 1, 1) := by decide +kernel
theorem dX7_become_18 : decode cX7_become 18 = .ok (.getfield 16, 3) := by decide +kernel
theorem dX7_become_21 : decode cX7_become 21 = .ok (.putfield 16, 3) := by decide +kernel
theorem dX7_become_24 : decode cX7_become 24 = .ok (.aload_n 0, 1) := by decide +kernel
theorem dX7_become_25 : decode cX7_become 25 = .ok (.aload_n 1, 1) := by decide +kernel
theorem dX7_become_26 : decode cX7_become 26 = .ok (.getfield 20, 3) := by decide +kernel
theorem dX7_become_29 : decode cX7_become 29 = .ok (.putfield 20, 3) := by decide +kernel
theorem dX7_become_32 : decode cX7_become 32 = .ok (.aload_n 0, 1) := by decide +kernel
theorem dX7_become_33 : decode cX7_become 33 = .ok (.aload_n 1, 1) := by decide +kernel
theorem dX7_become_34 : decode cX7_become 34 = .ok (.getfield 23, 3) := by decide +kernel
theorem dX7_become_37 : decode cX7_become 37 = .ok (.putfield 23, 3) := by decide +kernel
theorem dX7_become_40 : decode cX7_become 40 = .ok (.aload_n 0, 1) := by decide +kernel
theorem dX7_become_41 : decode cX7_become 41 = .ok (.aload_n 1, 1) := by decide +kernel
theorem dX7_become_42 : decode cX7_become 42 = .ok (.getfield 26, 3) := by decide +kernel
theorem dX7_become_45 : decode cX7_become 45 = .ok (.putfield 26, 3) := by decide +kernel
theorem dX7_become_48 : decode cX7_become 48 = .ok (.aload_n 0, 1) := by decide +kernel
theorem dX7_become_49 : decode cX7_become 49 = .ok (.aload_n 1, 1) := by decide +kernel
theorem dX7_become_50 : decode cX7_become 50 = .ok (.getfield 29, 3) := by decide +kernel
theorem dX7_become_53 : decode cX7_become 53 = .ok (.putfield 29, 3) := by decide +kernel
theorem dX7_become_56 : decode cX7_become 56 = .ok (.aload_n 0, 1) := by decide +kernel
theorem dX7_become_57 : decode cX7_become 57 = .ok (.aload_n 1, 1) := by decide +kernel
theorem dX7_become_58 : decode cX7_become 58 = .ok (.getfield 32, 3) := by decide +kernel
theorem dX7_become_61 : decode cX7_become 61 = .ok (.putfield 32, 3) := by decide +kernel
theorem dX7_become_64 : decode cX7_become 64 = .ok (.aload_n 0, 1) := by decide +kernel
theorem dX7_become_65 : decode cX7_become 65 = .ok (.aload_n 1, 1) := by decide +kernel
theorem dX7_become_66 : decode cX7_become 66 = .ok (.getfield 35, 3) := by decide +kernel
theorem dX7_become_69 : decode cX7_become 69 = .ok (.putfield 35, 3) := by decide +kernel
theorem dX7_become_72 : decode cX7_become 72 = .ok (.return_, 1) := by decide +kernel
theorem dX7_hasteOver_0 : decode cX7_hasteOver 0 = .ok (.aload_n 0, 1) := by decide +kernel
theorem dX7_hasteOver_1 : decode cX7_hasteOver 1 = .ok (.getfield 23, 3) := by decide +kernel
theorem dX7_hasteOver_4 : decode cX7_hasteOver 4 = .ok (.ifCond .le 15, 3) := by decide +kernel
theorem dX7_hasteOver_7 : decode cX7_hasteOver 7 = .ok (.iload_n 1, 1) := by decide +kernel
theorem dX7_hasteOver_8 : decode cX7_hasteOver 8 = .ok (.bipush 100, 2) := by decide +kernel
theorem dX7_hasteOver_10 : decode cX7_hasteOver 10 = .ok (.imul, 1) := by decide +kernel
theorem dX7_hasteOver_11 : decode cX7_hasteOver 11 = .ok (.aload_n 0, 1) := by decide +kernel
theorem dX7_hasteOver_12 : decode cX7_hasteOver 12 = .ok (.getfield 23, 3) := by decide +kernel
theorem dX7_hasteOver_15 : decode cX7_hasteOver 15 = .ok (.idiv, 1) := by decide +kernel
theorem dX7_hasteOver_16 : decode cX7_hasteOver 16 = .ok (.goto 4, 3) := by decide +kernel
theorem dX7_hasteOver_19 : decode cX7_hasteOver 19 = .ok (.iconst 0, 1) := by decide +kernel
theorem dX7_hasteOver_20 : decode cX7_hasteOver 20 = .ok (.istore_n 2, 1) := by decide +kernel
theorem dX7_hasteOver_21 : decode cX7_hasteOver 21 = .ok (.aload_n 0, 1) := by decide +kernel
theorem dX7_hasteOver_22 : decode cX7_hasteOver 22 = .ok (.getfield 20, 3) := by decide +kernel
theorem dX7_hasteOver_25 : decode cX7_hasteOver 25 = .ok (.tableswitch 111 1 6 #[39, 49, 59, 77, 84, 96], 39) := by decide +kernel
theorem dX7_hasteOver_64 : decode cX7_hasteOver 64 = .ok (.iload_n 2, 1) := by decide +kernel
theorem dX7_hasteOver_65 : decode cX7_hasteOver 65 = .ok (.aload_n 0, 1) := by decide +kernel
theorem dX7_hasteOver_66 : decode cX7_hasteOver 66 = .ok (.getfield 32, 3) := by decide +kernel
theorem dX7_hasteOver_69 : decode cX7_hasteOver 69 = .ok (.isub, 1) := by decide +kernel
theorem dX7_hasteOver_70 : decode cX7_hasteOver 70 = .ok (.istore_n 3, 1) := by decide +kernel
theorem dX7_hasteOver_71 : decode cX7_hasteOver 71 = .ok (.goto 67, 3) := by decide +kernel
theorem dX7_hasteOver_74 : decode cX7_hasteOver 74 = .ok (.iload_n 2, 1) := by decide +kernel
theorem dX7_hasteOver_75 : decode cX7_hasteOver 75 = .ok (.aload_n 0, 1) := by decide +kernel
theorem dX7_hasteOver_76 : decode cX7_hasteOver 76 = .ok (.getfield 32, 3) := by decide +kernel
theorem dX7_hasteOver_79 : decode cX7_hasteOver 79 = .ok (.iadd, 1) := by decide +kernel
theorem dX7_hasteOver_80 : decode cX7_hasteOver 80 = .ok (.istore_n 3, 1) := by decide +kernel
theorem dX7_hasteOver_81 : decode cX7_hasteOver 81 = .ok (.goto 57, 3) := by decide +kernel
theorem dX7_hasteOver_84 : decode cX7_hasteOver 84 = .ok (.iload_n 2, 1) := by decide +kernel
theorem dX7_hasteOver_85 : decode cX7_hasteOver 85 = .ok (.aload_n 0, 1) := by decide +kernel
theorem dX7_hasteOver_86 : decode cX7_hasteOver 86 = .ok (.getfield 32, 3) := by decide +kernel
theorem dX7_hasteOver_89 : decode cX7_hasteOver 89 = .ok (.isub, 1) := by decide +kernel
theorem dX7_hasteOver_90 : decode cX7_hasteOver 90 = .ok (.bipush 9, 2) := by decide +kernel
theorem dX7_hasteOver_92 : decode cX7_hasteOver 92 = .ok (.aload_n 0, 1) := by decide +kernel
theorem dX7_hasteOver_93 : decode cX7_hasteOver 93 = .ok (.getfield 35, 3) := by decide +kernel
theorem dX7_hasteOver_96 : decode cX7_hasteOver 96 = .ok (.isub, 1) := by decide +kernel
theorem dX7_hasteOver_97 : decode cX7_hasteOver 97 = .ok (.isub, 1) := by decide +kernel
theorem dX7_hasteOver_98 : decode cX7_hasteOver 98 = .ok (.istore_n 3, 1) := by decide +kernel
theorem dX7_hasteOver_99 : decode cX7_hasteOver 99 = .ok (.goto 39, 3) := by decide +kernel
theorem dX7_hasteOver_102 : decode cX7_hasteOver 102 = .ok (.iconst 2, 1) := by decide +kernel
theorem dX7_hasteOver_103 : decode cX7_hasteOver 103 = .ok (.iload_n 2, 1) := by decide +kernel
theorem dX7_hasteOver_104 : decode cX7_hasteOver 104 = .ok (.imul, 1) := by decide +kernel
theorem dX7_hasteOver_105 : decode cX7_hasteOver 105 = .ok (.istore_n 3, 1) := by decide +kernel
theorem dX7_hasteOver_106 : decode cX7_hasteOver 106 = .ok (.goto 32, 3) := by decide +kernel
theorem dX7_hasteOver_109 : decode cX7_hasteOver 109 = .ok (.iload_n 2, 1) := by decide +kernel
theorem dX7_hasteOver_110 : decode cX7_hasteOver 110 = .ok (.aload_n 0, 1) := by decide +kernel
theorem dX7_hasteOver_111 : decode cX7_hasteOver 111 = .ok (.getfield 32, 3) := by decide +kernel
theorem dX7_hasteOver_114 : decode cX7_hasteOver 114 = .ok (.isub, 1) := by decide +kernel
theorem dX7_hasteOver_115 : decode cX7_hasteOver 115 = .ok (.iconst 2, 1) := by decide +kernel
theorem dX7_hasteOver_116 : decode cX7_hasteOver 116 = .ok (.idiv, 1) := by decide +kernel
theorem dX7_hasteOver_117 : decode cX7_hasteOver 117 = .ok (.istore_n 3, 1) := by decide +kernel
theorem dX7_hasteOver_118 : decode cX7_hasteOver 118 = .ok (.goto 20, 3) := by decide +kernel
theorem dX7_hasteOver_121 : decode cX7_hasteOver 121 = .ok (.iload_n 2, 1) := by decide +kernel
theorem dX7_hasteOver_122 : decode cX7_hasteOver 122 = .ok (.aload_n 0, 1) := by decide +kernel
theorem dX7_hasteOver_123 : decode cX7_hasteOver 123 = .ok (.getfield 32, 3) := by decide +kernel
theorem dX7_hasteOver_126 : decode cX7_hasteOver 126 = .ok (.iadd, 1) := by decide +kernel
theorem dX7_hasteOver_127 : decode cX7_hasteOver 127 = .ok (.aload_n 0, 1) := by decide +kernel
theorem dX7_hasteOver_128 : decode cX7_hasteOver 128 = .ok (.getfield 35, 3) := by decide +kernel
theorem dX7_hasteOver_131 : decode cX7_hasteOver 131 = .ok (.iadd, 1) := by decide +kernel
theorem dX7_hasteOver_132 : decode cX7_hasteOver 132 = .ok (.istore_n 3, 1) := by decide +kernel
theorem dX7_hasteOver_133 : decode cX7_hasteOver 133 = .ok (.goto 5, 3) := by decide +kernel
theorem dX7_hasteOver_136 : decode cX7_hasteOver 136 = .ok (.iload_n 2, 1) := by decide +kernel
theorem dX7_hasteOver_137 : decode cX7_hasteOver 137 = .ok (.istore_n 3, 1) := by decide +kernel
theorem dX7_hasteOver_138 : decode cX7_hasteOver 138 = .ok (.iload_n 3, 1) := by decide +kernel
theorem dX7_hasteOver_139 : decode cX7_hasteOver 139 = .ok (.ifCond .ge 7, 3) := by decide +kernel
theorem dX7_hasteOver_142 : decode cX7_hasteOver 142 = .ok (.iconst 0, 1) := by decide +kernel
theorem dX7_hasteOver_143 : decode cX7_hasteOver 143 = .ok (.goto 4, 3) := by decide +kernel
theorem dX7_hasteOver_146 : decode cX7_hasteOver 146 = .ok (.iload_n 3, 1) := by decide +kernel
theorem dX7_hasteOver_147 : decode cX7_hasteOver 147 = .ok (.ireturn, 1) := by decide +kernel
theorem dX7_change_0 : decode cX7_change 0 = .ok (.iload_n 1, 1) := by decide +kernel
theorem dX7_change_1 : decode cX7_change 1 = .ok (.tableswitch 100 0 4 #[35, 48, 61, 74, 87], 35) := by decide +kernel
theorem dX7_change_36 : decode cX7_change 36 = .ok (.aload_n 0, 1) := by decide +kernel
theorem dX7_change_37 : decode cX7_change 37 = .ok (.getfield 23, 3) := by decide +kernel
theorem dX7_change_40 : decode cX7_change 40 = .ok (.istore_n 3, 1) := by decide +kernel
theorem dX7_change_41 : decode cX7_change 41 = .ok (.aload_n 0, 1) := by decide +kernel
theorem dX7_change_42 : decode cX7_change 42 = .ok (.iload_n 2, 1) := by decide +kernel
theorem dX7_change_43 : decode cX7_change 43 = .ok (.putfield 23, 3) := by decide +kernel
theorem dX7_change_46 : decode cX7_change 46 = .ok (.goto 65, 3) := by decide +kernel
theorem dX7_change_49 : decode cX7_change 49 = .ok (.aload_n 0, 1) := by decide +kernel
theorem dX7_change_50 : decode cX7_change 50 = .ok (.getfield 26, 3) := by decide +kernel
theorem dX7_change_53 : decode cX7_change 53 = .ok (.istore_n 3, 1) := by decide +kernel
theorem dX7_change_54 : decode cX7_change 54 = .ok (.aload_n 0, 1) := by decide +kernel
theorem dX7_change_55 : decode cX7_change 55 = .ok (.iload_n 2, 1) := by decide +kernel
theorem dX7_change_56 : decode cX7_change 56 = .ok (.putfield 26, 3) := by decide +kernel
theorem dX7_change_59 : decode cX7_change 59 = .ok (.goto 52, 3) := by decide +kernel
theorem dX7_change_62 : decode cX7_change 62 = .ok (.aload_n 0, 1) := by decide +kernel
theorem dX7_change_63 : decode cX7_change 63 = .ok (.getfield 29, 3) := by decide +kernel
theorem dX7_change_66 : decode cX7_change 66 = .ok (.istore_n 3, 1) := by decide +kernel
theorem dX7_change_67 : decode cX7_change 67 = .ok (.aload_n 0, 1) := by decide +kernel
theorem dX7_change_68 : decode cX7_change 68 = .ok (.iload_n 2, 1) := by decide +kernel
theorem dX7_change_69 : decode cX7_change 69 = .ok (.putfield 29, 3) := by decide +kernel
theorem dX7_change_72 : decode cX7_change 72 = .ok (.goto 39, 3) := by decide +kernel
theorem dX7_change_75 : decode cX7_change 75 = .ok (.aload_n 0, 1) := by decide +kernel
theorem dX7_change_76 : decode cX7_change 76 = .ok (.getfield 32, 3) := by decide +kernel
theorem dX7_change_79 : decode cX7_change 79 = .ok (.istore_n 3, 1) := by decide +kernel
theorem dX7_change_80 : decode cX7_change 80 = .ok (.aload_n 0, 1) := by decide +kernel
theorem dX7_change_81 : decode cX7_change 81 = .ok (.iload_n 2, 1) := by decide +kernel
theorem dX7_change_82 : decode cX7_change 82 = .ok (.putfield 32, 3) := by decide +kernel
theorem dX7_change_85 : decode cX7_change 85 = .ok (.goto 26, 3) := by decide +kernel
theorem dX7_change_88 : decode cX7_change 88 = .ok (.aload_n 0, 1) := by decide +kernel
theorem dX7_change_89 : decode cX7_change 89 = .ok (.getfield 35, 3) := by decide +kernel
theorem dX7_change_92 : decode cX7_change 92 = .ok (.istore_n 3, 1) := by decide +kernel
theorem dX7_change_93 : decode cX7_change 93 = .ok (.aload_n 0, 1) := by decide +kernel
theorem dX7_change_94 : decode cX7_change 94 = .ok (.iload_n 2, 1) := by decide +kernel
theorem dX7_change_95 : decode cX7_change 95 = .ok (.putfield 35, 3) := by decide +kernel
theorem dX7_change_98 : decode cX7_change 98 = .ok (.goto 13, 3) := by decide +kernel
theorem dX7_change_101 : decode cX7_change 101 = .ok (.aload_n 0, 1) := by decide +kernel
theorem dX7_change_102 : decode cX7_change 102 = .ok (.getfield 20, 3) := by decide +kernel
theorem dX7_change_105 : decode cX7_change 105 = .ok (.istore_n 3, 1) := by decide +kernel
theorem dX7_change_106 : decode cX7_change 106 = .ok (.aload_n 0, 1) := by decide +kernel
theorem dX7_change_107 : decode cX7_change 107 = .ok (.iload_n 2, 1) := by decide +kernel
theorem dX7_change_108 : decode cX7_change 108 = .ok (.putfield 20, 3) := by decide +kernel
theorem dX7_change_111 : decode cX7_change 111 = .ok (.iload_n 3, 1) := by decide +kernel
theorem dX7_change_112 : decode cX7_change 112 = .ok (.ireturn, 1) := by decide +kernel
theorem dX7_tell_0 : decode cX7_tell 0 = .ok (.iload_n 1, 1) := by decide +kernel
theorem dX7_tell_1 : decode cX7_tell 1 = .ok (.tableswitch 68 0 4 #[35, 40, 45, 58, 63], 35) := by decide +kernel
theorem dX7_tell_36 : decode cX7_tell 36 = .ok (.aload_n 0, 1) := by decide +kernel
theorem dX7_tell_37 : decode cX7_tell 37 = .ok (.getfield 7, 3) := by decide +kernel
theorem dX7_tell_40 : decode cX7_tell 40 = .ok (.ireturn, 1) := by decide +kernel
theorem dX7_tell_41 : decode cX7_tell 41 = .ok (.aload_n 0, 1) := by decide +kernel
theorem dX7_tell_42 : decode cX7_tell 42 = .ok (.getfield 13, 3) := by decide +kernel
theorem dX7_tell_45 : decode cX7_tell 45 = .ok (.ireturn, 1) := by decide +kernel
theorem dX7_tell_46 : decode cX7_tell 46 = .ok (.aload_n 0, 1) := by decide +kernel
theorem dX7_tell_47 : decode cX7_tell 47 = .ok (.getfield 16, 3) := by decide +kernel
theorem dX7_tell_50 : decode cX7_tell 50 = .ok (.ifCond .eq 7, 3) := by decide +kernel
theorem dX7_tell_53 : decode cX7_tell 53 = .ok (.iconst 1, 1) := by decide +kernel
theorem dX7_tell_54 : decode cX7_tell 54 = .ok (.goto 4, 3) := by decide +kernel
theorem dX7_tell_57 : decode cX7_tell 57 = .ok (.iconst 0, 1) := by decide +kernel
theorem dX7_tell_58 : decode cX7_tell 58 = .ok (.ireturn, 1) := by decide +kernel
theorem dX7_tell_59 : decode cX7_tell 59 = .ok (.aload_n 0, 1) := by decide +kernel
theorem dX7_tell_60 : decode cX7_tell 60 = .ok (.getfield 20, 3) := by decide +kernel
theorem dX7_tell_63 : decode cX7_tell 63 = .ok (.ireturn, 1) := by decide +kernel
theorem dX7_tell_64 : decode cX7_tell 64 = .ok (.aload_n 0, 1) := by decide +kernel
theorem dX7_tell_65 : decode cX7_tell 65 = .ok (.getfield 23, 3) := by decide +kernel
theorem dX7_tell_68 : decode cX7_tell 68 = .ok (.ireturn, 1) := by decide +kernel
theorem dX7_tell_69 : decode cX7_tell 69 = .ok (.aload_n 0, 1) := by decide +kernel
theorem dX7_tell_70 : decode cX7_tell 70 = .ok (.getfield 26, 3) := by decide +kernel
theorem dX7_tell_73 : decode cX7_tell 73 = .ok (.ireturn, 1) := by decide +kernel
theorem dX8_init_0 : decode cX8_init 0 = .ok (.aload_n 0, 1) := by decide +kernel
theorem dX8_init_1 : decode cX8_init 1 = .ok (.invokespecial 1, 3) := by decide +kernel
theorem dX8_init_4 : decode cX8_init 4 = .ok (.aload_n 0, 1) := by decide +kernel
theorem dX8_init_5 : decode cX8_init 5 = .ok (.new 7, 3) := by decide +kernel
theorem dX8_init_8 : decode cX8_init 8 = .ok (.dup, 1) := by decide +kernel
theorem dX8_init_9 : decode cX8_init 9 = .ok (.invokespecial 9, 3) := by decide +kernel
theorem dX8_init_12 : decode cX8_init 12 = .ok (.putfield 10, 3) := by decide +kernel
theorem dX8_init_15 : decode cX8_init 15 = .ok (.aload_n 0, 1) := by decide +kernel
theorem dX8_init_16 : decode cX8_init 16 = .ok (.aload_n 0, 1) := by decide +kernel
theorem dX8_init_17 : decode cX8_init 17 = .ok (.getfield 10, 3) := by decide +kernel
theorem dX8_init_20 : decode cX8_init 20 = .ok (.getfield 16, 3) := by decide +kernel
theorem dX8_init_23 : decode cX8_init 23 = .ok (.putfield 20, 3) := by decide +kernel
theorem dX8_init_26 : decode cX8_init 26 = .ok (.aload_n 0, 1) := by decide +kernel
theorem dX8_init_27 : decode cX8_init 27 = .ok (.new 21, 3) := by decide +kernel
theorem dX8_init_30 : decode cX8_init 30 = .ok (.dup, 1) := by decide +kernel
theorem dX8_init_31 : decode cX8_init 31 = .ok (.invokespecial 23, 3) := by decide +kernel
theorem dX8_init_34 : decode cX8_init 34 = .ok (.putfield 24, 3) := by decide +kernel
theorem dX8_init_37 : decode cX8_init 37 = .ok (.aload_n 0, 1) := by decide +kernel
theorem dX8_init_38 : decode cX8_init 38 = .ok (.new 27, 3) := by decide +kernel
theorem dX8_init_41 : decode cX8_init 41 = .ok (.dup, 1) := by decide +kernel
theorem dX8_init_42 : decode cX8_init 42 = .ok (.bipush 16, 2) := by decide +kernel
theorem dX8_init_44 : decode cX8_init 44 = .ok (.invokespecial 29, 3) := by decide +kernel
theorem dX8_init_47 : decode cX8_init 47 = .ok (.putfield 32, 3) := by decide +kernel
theorem dX8_init_50 : decode cX8_init 50 = .ok (.aload_n 0, 1) := by decide +kernel
theorem dX8_init_51 : decode cX8_init 51 = .ok (.new 27, 3) := by decide +kernel
theorem dX8_init_54 : decode cX8_init 54 = .ok (.dup, 1) := by decide +kernel
theorem dX8_init_55 : decode cX8_init 55 = .ok (.bipush 60, 2) := by decide +kernel
theorem dX8_init_57 : decode cX8_init 57 = .ok (.invokespecial 29, 3) := by decide +kernel
theorem dX8_init_60 : decode cX8_init 60 = .ok (.putfield 36, 3) := by decide +kernel
theorem dX8_init_63 : decode cX8_init 63 = .ok (.aload_n 0, 1) := by decide +kernel
theorem dX8_init_64 : decode cX8_init 64 = .ok (.new 39, 3) := by decide +kernel
theorem dX8_init_67 : decode cX8_init 67 = .ok (.dup, 1) := by decide +kernel
theorem dX8_init_68 : decode cX8_init 68 = .ok (.invokespecial 41, 3) := by decide +kernel
theorem dX8_init_71 : decode cX8_init 71 = .ok (.putfield 42, 3) := by decide +kernel
theorem dX8_init_74 : decode cX8_init 74 = .ok (.aload_n 0, 1) := by decide +kernel
theorem dX8_init_75 : decode cX8_init 75 = .ok (.bipush 7, 2) := by decide +kernel
theorem dX8_init_77 : decode cX8_init 77 = .ok (.newarray .int, 2) := by decide +kernel
theorem dX8_init_79 : decode cX8_init 79 = .ok (.putfield 46, 3) := by decide +kernel
theorem dX8_init_82 : decode cX8_init 82 = .ok (.aload_n 0, 1) := by decide +kernel
theorem dX8_init_83 : decode cX8_init 83 = .ok (.iconst 0, 1) := by decide +kernel
theorem dX8_init_84 : decode cX8_init 84 = .ok (.putfield 50, 3) := by decide +kernel
theorem dX8_init_87 : decode cX8_init 87 = .ok (.return_, 1) := by decide +kernel
theorem dX8_feed_0 : decode cX8_feed 0 = .ok (.iload_n 1, 1) := by decide +kernel
theorem dX8_feed_1 : decode cX8_feed 1 = .ok (.iconst 1, 1) := by decide +kernel
theorem dX8_feed_2 : decode cX8_feed 2 = .ok (.if_icmp .ge 9, 3) := by decide +kernel
theorem dX8_feed_5 : decode cX8_feed 5 = .ok (.aload_n 0, 1) := by decide +kernel
theorem dX8_feed_6 : decode cX8_feed 6 = .ok (.iconst 4, 1) := by decide +kernel
theorem dX8_feed_7 : decode cX8_feed 7 = .ok (.invokevirtual 54, 3) := by decide +kernel
theorem dX8_feed_10 : decode cX8_feed 10 = .ok (.ireturn, 1) := by decide +kernel
theorem dX8_feed_11 : decode cX8_feed 11 = .ok (.iload_n 1, 1) := by decide +kernel
theorem dX8_feed_12 : decode cX8_feed 12 = .ok (.bipush 8, 2) := by decide +kernel
theorem dX8_feed_14 : decode cX8_feed 14 = .ok (.if_icmp .gt 17, 3) := by decide +kernel
theorem dX8_feed_17 : decode cX8_feed 17 = .ok (.aload_n 0, 1) := by decide +kernel
theorem dX8_feed_18 : decode cX8_feed 18 = .ok (.getfield 42, 3) := by decide +kernel
theorem dX8_feed_21 : decode cX8_feed 21 = .ok (.getfield 58, 3) := by decide +kernel
theorem dX8_feed_24 : decode cX8_feed 24 = .ok (.iload_n 1, 1) := by decide +kernel
theorem dX8_feed_25 : decode cX8_feed 25 = .ok (.iadd, 1) := by decide +kernel
theorem dX8_feed_26 : decode cX8_feed 26 = .ok (.bipush 64, 2) := by decide +kernel
theorem dX8_feed_28 : decode cX8_feed 28 = .ok (.if_icmp .le 10, 3) := by decide +kernel
theorem dX8_feed_31 : decode cX8_feed 31 = .ok (.aload_n 0, 1) := by decide +kernel
theorem dX8_feed_32 : decode cX8_feed 32 = .ok (.bipush 6, 2) := by decide +kernel
theorem dX8_feed_34 : decode cX8_feed 34 = .ok (.invokevirtual 54, 3) := by decide +kernel
theorem dX8_feed_37 : decode cX8_feed 37 = .ok (.ireturn, 1) := by decide +kernel
theorem dX8_feed_38 : decode cX8_feed 38 = .ok (.aload_n 0, 1) := by decide +kernel
theorem dX8_feed_39 : decode cX8_feed 39 = .ok (.getfield 42, 3) := by decide +kernel
theorem dX8_feed_42 : decode cX8_feed 42 = .ok (.iload_n 1, 1) := by decide +kernel
theorem dX8_feed_43 : decode cX8_feed 43 = .ok (.lload_n 2, 1) := by decide +kernel
theorem dX8_feed_44 : decode cX8_feed 44 = .ok (.invokevirtual 62, 3) := by decide +kernel
theorem dX8_feed_47 : decode cX8_feed 47 = .ok (.aload_n 0, 1) := by decide +kernel
theorem dX8_feed_48 : decode cX8_feed 48 = .ok (.getfield 42, 3) := by decide +kernel
theorem dX8_feed_51 : decode cX8_feed 51 = .ok (.getfield 58, 3) := by decide +kernel
theorem dX8_feed_54 : decode cX8_feed 54 = .ok (.ireturn, 1) := by decide +kernel
theorem dX8_party_0 : decode cX8_party 0 = .ok (.aload_n 0, 1) := by decide +kernel
theorem dX8_party_1 : decode cX8_party 1 = .ok (.getfield 10, 3) := by decide +kernel
theorem dX8_party_4 : decode cX8_party 4 = .ok (.aload_n 0, 1) := by decide +kernel
theorem dX8_party_5 : decode cX8_party 5 = .ok (.getfield 42, 3) := by decide +kernel
theorem dX8_party_8 : decode cX8_party 8 = .ok (.invokevirtual 66, 3) := by decide +kernel
theorem dX8_party_11 : decode cX8_party 11 = .ok (.istore_n 1, 1) := by decide +kernel
theorem dX8_party_12 : decode cX8_party 12 = .ok (.aload_n 0, 1) := by decide +kernel
theorem dX8_party_13 : decode cX8_party 13 = .ok (.getfield 42, 3) := by decide +kernel
theorem dX8_party_16 : decode cX8_party 16 = .ok (.iconst 0, 1) := by decide +kernel
theorem dX8_party_17 : decode cX8_party 17 = .ok (.putfield 58, 3) := by decide +kernel
theorem dX8_party_20 : decode cX8_party 20 = .ok (.iload_n 1, 1) := by decide +kernel
theorem dX8_party_21 : decode cX8_party 21 = .ok (.ireturn, 1) := by decide +kernel
theorem dX8_chair_0 : decode cX8_chair 0 = .ok (.aload_n 0, 1) := by decide +kernel
theorem dX8_chair_1 : decode cX8_chair 1 = .ok (.getfield 20, 3) := by decide +kernel
theorem dX8_chair_4 : decode cX8_chair 4 = .ok (.iload_n 1, 1) := by decide +kernel
theorem dX8_chair_5 : decode cX8_chair 5 = .ok (.invokevirtual 70, 3) := by decide +kernel
theorem dX8_chair_8 : decode cX8_chair 8 = .ok (.istore_n 2, 1) := by decide +kernel
theorem dX8_chair_9 : decode cX8_chair 9 = .ok (.iload_n 2, 1) := by decide +kernel
theorem dX8_chair_10 : decode cX8_chair 10 = .ok (.ifCond .eq 11, 3) := by decide +kernel
theorem dX8_chair_13 : decode cX8_chair 13 = .ok (.aload_n 0, 1) := by decide +kernel
theorem dX8_chair_14 : decode cX8_chair 14 = .ok (.iload_n 2, 1) := by decide +kernel
theorem dX8_chair_15 : decode cX8_chair 15 = .ok (.invokevirtual 54, 3) := by decide +kernel
theorem dX8_chair_18 : decode cX8_chair 18 = .ok (.goto 11, 3) := by decide +kernel
theorem dX8_chair_21 : decode cX8_chair 21 = .ok (.aload_n 0, 1) := by decide +kernel
theorem dX8_chair_22 : decode cX8_chair 22 = .ok (.getfield 20, 3) := by decide +kernel
theorem dX8_chair_25 : decode cX8_chair 25 = .ok (.iload_n 1, 1) := by decide +kernel
theorem dX8_chair_26 : decode cX8_chair 26 = .ok (.invokevirtual 73, 3) := by decide +kernel
theorem dX8_chair_29 : decode cX8_chair 29 = .ok (.ireturn, 1) := by decide +kernel
theorem dX8_walker_0 : decode cX8_walker 0 = .ok (.aload_n 0, 1) := by decide +kernel
theorem dX8_walker_1 : decode cX8_walker 1 = .ok (.getfield 20, 3) := by decide +kernel
theorem dX8_walker_4 : decode cX8_walker 4 = .ok (.iload_n 1, 1) := by decide +kernel
theorem dX8_walker_5 : decode cX8_walker 5 = .ok (.iload_n 2, 1) := by decide +kernel
theorem dX8_walker_6 : decode cX8_walker 6 = .ok (.iload_n 3, 1) := by decide +kernel
theorem dX8_walker_7 : decode cX8_walker 7 = .ok (.invokevirtual 76, 3) := by decide +kernel
theorem dX8_walker_10 : decode cX8_walker 10 = .ok (.istore 4, 2) := by decide +kernel
theorem dX8_walker_12 : decode cX8_walker 12 = .ok (.iload 4, 2) := by decide +kernel
theorem dX8_walker_14 : decode cX8_walker 14 = .ok (.ifCond .eq 12, 3) := by decide +kernel
theorem dX8_walker_17 : decode cX8_walker 17 = .ok (.aload_n 0, 1) := by decide +kernel
theorem dX8_walker_18 : decode cX8_walker 18 = .ok (.iload 4, 2) := by decide +kernel
theorem dX8_walker_20 : decode cX8_walker 20 = .ok (.invokevirtual 54, 3) := by decide +kernel
theorem dX8_walker_23 : decode cX8_walker 23 = .ok (.goto 13, 3) := by decide +kernel
theorem dX8_walker_26 : decode cX8_walker 26 = .ok (.aload_n 0, 1) := by decide +kernel
theorem dX8_walker_27 : decode cX8_walker 27 = .ok (.getfield 20, 3) := by decide +kernel
theorem dX8_walker_30 : decode cX8_walker 30 = .ok (.iload_n 1, 1) := by decide +kernel
theorem dX8_walker_31 : decode cX8_walker 31 = .ok (.iload_n 2, 1) := by decide +kernel
theorem dX8_walker_32 : decode cX8_walker 32 = .ok (.iload_n 3, 1) := by decide +kernel
theorem dX8_walker_33 : decode cX8_walker 33 = .ok (.invokevirtual 80, 3) := by decide +kernel
theorem dX8_walker_36 : decode cX8_walker 36 = .ok (.ireturn, 1) := by decide +kernel
theorem dX8_set_0 : decode cX8_set 0 = .ok (.aload_n 0, 1) := by decide +kernel
theorem dX8_set_1 : decode cX8_set 1 = .ok (.getfield 20, 3) := by decide +kernel
theorem dX8_set_4 : decode cX8_set 4 = .ok (.iload_n 1, 1) := by decide +kernel
theorem dX8_set_5 : decode cX8_set 5 = .ok (.invokevirtual 83, 3) := by decide +kernel
theorem dX8_set_8 : decode cX8_set 8 = .ok (.ifCond .ne 9, 3) := by decide +kernel
theorem dX8_set_11 : decode cX8_set 11 = .ok (.aload_n 0, 1) := by decide +kernel
theorem dX8_set_12 : decode cX8_set 12 = .ok (.iconst 1, 1) := by decide +kernel
theorem dX8_set_13 : decode cX8_set 13 = .ok (.invokevirtual 54, 3) := by decide +kernel
theorem dX8_set_16 : decode cX8_set 16 = .ok (.ireturn, 1) := by decide +kernel
theorem dX8_set_17 : decode cX8_set 17 = .ok (.iload_n 2, 1) := by decide +kernel
theorem dX8_set_18 : decode cX8_set 18 = .ok (.ifCond .lt 8, 3) := by decide +kernel
theorem dX8_set_21 : decode cX8_set 21 = .ok (.iload_n 2, 1) := by decide +kernel
theorem dX8_set_22 : decode cX8_set 22 = .ok (.iconst 5, 1) := by decide +kernel
theorem dX8_set_23 : decode cX8_set 23 = .ok (.if_icmp .le 9, 3) := by decide +kernel
theorem dX8_set_26 : decode cX8_set 26 = .ok (.aload_n 0, 1) := by decide +kernel
theorem dX8_set_27 : decode cX8_set 27 = .ok (.iconst 2, 1) := by decide +kernel
theorem dX8_set_28 : decode cX8_set 28 = .ok (.invokevirtual 54, 3) := by decide +kernel
theorem dX8_set_31 : decode cX8_set 31 = .ok (.ireturn, 1) := by decide +kernel
theorem dX8_set_32 : decode cX8_set 32 = .ok (.iload_n 3, 1) := by decide +kernel
theorem dX8_set_33 : decode cX8_set 33 = .ok (.iload_n 2, 1) := by decide +kernel
theorem dX8_set_34 : decode cX8_set 34 = .ok (.invokestatic 87, 3) := by decide +kernel
theorem dX8_set_37 : decode cX8_set 37 = .ok (.if_icmp .ge 9, 3) := by decide +kernel
theorem dX8_set_40 : decode cX8_set 40 = .ok (.aload_n 0, 1) := by decide +kernel
theorem dX8_set_41 : decode cX8_set 41 = .ok (.iconst 4, 1) := by decide +kernel
theorem dX8_set_42 : decode cX8_set 42 = .ok (.invokevirtual 54, 3) := by decide +kernel
theorem dX8_set_45 : decode cX8_set 45 = .ok (.ireturn, 1) := by decide +kernel
theorem dX8_set_46 : decode cX8_set 46 = .ok (.iload_n 3, 1) := by decide +kernel
theorem dX8_set_47 : decode cX8_set 47 = .ok (.iload_n 2, 1) := by decide +kernel
theorem dX8_set_48 : decode cX8_set 48 = .ok (.invokestatic 90, 3) := by decide +kernel
theorem dX8_set_51 : decode cX8_set 51 = .ok (.if_icmp .le 10, 3) := by decide +kernel
theorem dX8_set_54 : decode cX8_set 54 = .ok (.aload_n 0, 1) := by decide +kernel
theorem dX8_set_55 : decode cX8_set 55 = .ok (.bipush 6, 2) := by decide +kernel
theorem dX8_set_57 : decode cX8_set 57 = .ok (.invokevirtual 54, 3) := by decide +kernel
theorem dX8_set_60 : decode cX8_set 60 = .ok (.ireturn, 1) := by decide +kernel
theorem dX8_set_61 : decode cX8_set 61 = .ok (.aload_n 0, 1) := by decide +kernel
theorem dX8_set_62 : decode cX8_set 62 = .ok (.getfield 20, 3) := by decide +kernel
theorem dX8_set_65 : decode cX8_set 65 = .ok (.getfield 93, 3) := by decide +kernel
theorem dX8_set_68 : decode cX8_set 68 = .ok (.iload_n 1, 1) := by decide +kernel
theorem dX8_set_69 : decode cX8_set 69 = .ok (.aaload, 1) := by decide +kernel
theorem dX8_set_70 : decode cX8_set 70 = .ok (.iload_n 2, 1) := by decide +kernel
theorem dX8_set_71 : decode cX8_set 71 = .ok (.iload_n 3, 1) := by decide +kernel
theorem dX8_set_72 : decode cX8_set 72 = .ok (.invokevirtual 97, 3) := by decide +kernel
theorem dX8_set_75 : decode cX8_set 75 = .ok (.ireturn, 1) := by decide +kernel
theorem dX8_player_0 : decode cX8_player 0 = .ok (.aload_n 0, 1) := by decide +kernel
theorem dX8_player_1 : decode cX8_player 1 = .ok (.getfield 20, 3) := by decide +kernel
theorem dX8_player_4 : decode cX8_player 4 = .ok (.getfield 103, 3) := by decide +kernel
theorem dX8_player_7 : decode cX8_player 7 = .ok (.iload_n 1, 1) := by decide +kernel
theorem dX8_player_8 : decode cX8_player 8 = .ok (.iload_n 2, 1) := by decide +kernel
theorem dX8_player_9 : decode cX8_player 9 = .ok (.invokevirtual 107, 3) := by decide +kernel
theorem dX8_player_12 : decode cX8_player 12 = .ok (.istore_n 3, 1) := by decide +kernel
theorem dX8_player_13 : decode cX8_player 13 = .ok (.iload_n 3, 1) := by decide +kernel
theorem dX8_player_14 : decode cX8_player 14 = .ok (.ifCond .eq 9, 3) := by decide +kernel
theorem dX8_player_17 : decode cX8_player 17 = .ok (.aload_n 0, 1) := by decide +kernel
theorem dX8_player_18 : decode cX8_player 18 = .ok (.iload_n 3, 1) := by decide +kernel
theorem dX8_player_19 : decode cX8_player 19 = .ok (.invokevirtual 54, 3) := by decide +kernel
theorem dX8_player_22 : decode cX8_player 22 = .ok (.ireturn, 1) := by decide +kernel
theorem dX8_player_23 : decode cX8_player 23 = .ok (.aload_n 0, 1) := by decide +kernel
theorem dX8_player_24 : decode cX8_player 24 = .ok (.getfield 20, 3) := by decide +kernel
theorem dX8_player_27 : decode cX8_player 27 = .ok (.getfield 103, 3) := by decide +kernel
theorem dX8_player_30 : decode cX8_player 30 = .ok (.getfield 112, 3) := by decide +kernel
theorem dX8_player_33 : decode cX8_player 33 = .ok (.istore 4, 2) := by decide +kernel
theorem dX8_player_35 : decode cX8_player 35 = .ok (.aload_n 0, 1) := by decide +kernel
theorem dX8_player_36 : decode cX8_player 36 = .ok (.getfield 20, 3) := by decide +kernel
theorem dX8_player_39 : decode cX8_player 39 = .ok (.getfield 103, 3) := by decide +kernel
theorem dX8_player_42 : decode cX8_player 42 = .ok (.iload_n 1, 1) := by decide +kernel
theorem dX8_player_43 : decode cX8_player 43 = .ok (.putfield 112, 3) := by decide +kernel
theorem dX8_player_46 : decode cX8_player 46 = .ok (.aload_n 0, 1) := by decide +kernel
theorem dX8_player_47 : decode cX8_player 47 = .ok (.getfield 20, 3) := by decide +kernel
theorem dX8_player_50 : decode cX8_player 50 = .ok (.getfield 103, 3) := by decide +kernel
theorem dX8_player_53 : decode cX8_player 53 = .ok (.iload_n 2, 1) := by decide +kernel
theorem dX8_player_54 : decode cX8_player 54 = .ok (.putfield 115, 3) := by decide +kernel
theorem dX8_player_57 : decode cX8_player 57 = .ok (.iload 4, 2) := by decide +kernel
theorem dX8_player_59 : decode cX8_player 59 = .ok (.ireturn, 1) := by decide +kernel
theorem dX8_form_0 : decode cX8_form 0 = .ok (.iload_n 1, 1) := by decide +kernel
theorem dX8_form_1 : decode cX8_form 1 = .ok (.iconst 0, 1) := by decide +kernel
theorem dX8_form_2 : decode cX8_form 2 = .ok (.iconst 2, 1) := by decide +kernel
theorem dX8_form_3 : decode cX8_form 3 = .ok (.invokestatic 118, 3) := by decide +kernel
theorem dX8_form_6 : decode cX8_form 6 = .ok (.istore_n 2, 1) := by decide +kernel
theorem dX8_form_7 : decode cX8_form 7 = .ok (.iload_n 2, 1) := by decide +kernel
theorem dX8_form_8 : decode cX8_form 8 = .ok (.ifCond .eq 9, 3) := by decide +kernel
theorem dX8_form_11 : decode cX8_form 11 = .ok (.aload_n 0, 1) := by decide +kernel
theorem dX8_form_12 : decode cX8_form 12 = .ok (.iload_n 2, 1) := by decide +kernel
theorem dX8_form_13 : decode cX8_form 13 = .ok (.invokevirtual 54, 3) := by decide +kernel
theorem dX8_form_16 : decode cX8_form 16 = .ok (.ireturn, 1) := by decide +kernel
theorem dX8_form_17 : decode cX8_form 17 = .ok (.aload_n 0, 1) := by decide +kernel
theorem dX8_form_18 : decode cX8_form 18 = .ok (.getfield 20, 3) := by decide +kernel
theorem dX8_form_21 : decode cX8_form 21 = .ok (.getfield 121, 3) := by decide +kernel
theorem dX8_form_24 : decode cX8_form 24 = .ok (.istore_n 3, 1) := by decide +kernel
theorem dX8_form_25 : decode cX8_form 25 = .ok (.aload_n 0, 1) := by decide +kernel
theorem dX8_form_26 : decode cX8_form 26 = .ok (.getfield 20, 3) := by decide +kernel
theorem dX8_form_29 : decode cX8_form 29 = .ok (.iload_n 1, 1) := by decide +kernel
theorem dX8_form_30 : decode cX8_form 30 = .ok (.putfield 121, 3) := by decide +kernel
theorem dX8_form_33 : decode cX8_form 33 = .ok (.iload_n 3, 1) := by decide +kernel
theorem dX8_form_34 : decode cX8_form 34 = .ok (.ireturn, 1) := by decide +kernel
theorem dX8_seed_0 : decode cX8_seed 0 = .ok (.aload_n 0, 1) := by decide +kernel
theorem dX8_seed_1 : decode cX8_seed 1 = .ok (.getfield 20, 3) := by decide +kernel
theorem dX8_seed_4 : decode cX8_seed 4 = .ok (.getfield 103, 3) := by decide +kernel
theorem dX8_seed_7 : decode cX8_seed 7 = .ok (.getfield 124, 3) := by decide +kernel
theorem dX8_seed_10 : decode cX8_seed 10 = .ok (.istore_n 2, 1) := by decide +kernel
theorem dX8_seed_11 : decode cX8_seed 11 = .ok (.aload_n 0, 1) := by decide +kernel
theorem dX8_seed_12 : decode cX8_seed 12 = .ok (.getfield 20, 3) := by decide +kernel
theorem dX8_seed_15 : decode cX8_seed 15 = .ok (.getfield 103, 3) := by decide +kernel
theorem dX8_seed_18 : decode cX8_seed 18 = .ok (.iload_n 1, 1) := by decide +kernel
theorem dX8_seed_19 : decode cX8_seed 19 = .ok (.putfield 124, 3) := by decide +kernel
theorem dX8_seed_22 : decode cX8_seed 22 = .ok (.iload_n 2, 1) := by decide +kernel
theorem dX8_seed_23 : decode cX8_seed 23 = .ok (.ireturn, 1) := by decide +kernel
theorem dX8_of_0 : decode cX8_of 0 = .ok (.aload_n 0, 1) := by decide +kernel
theorem dX8_of_1 : decode cX8_of 1 = .ok (.getfield 20, 3) := by decide +kernel
theorem dX8_of_4 : decode cX8_of 4 = .ok (.iload_n 1, 1) := by decide +kernel
theorem dX8_of_5 : decode cX8_of 5 = .ok (.invokevirtual 83, 3) := by decide +kernel
theorem dX8_of_8 : decode cX8_of 8 = .ok (.ifCond .ne 9, 3) := by decide +kernel
theorem dX8_of_11 : decode cX8_of 11 = .ok (.aload_n 0, 1) := by decide +kernel
theorem dX8_of_12 : decode cX8_of 12 = .ok (.iconst 1, 1) := by decide +kernel
theorem dX8_of_13 : decode cX8_of 13 = .ok (.invokevirtual 54, 3) := by decide +kernel
theorem dX8_of_16 : decode cX8_of 16 = .ok (.ireturn, 1) := by decide +kernel
theorem dX8_of_17 : decode cX8_of 17 = .ok (.iload_n 2, 1) := by decide +kernel
theorem dX8_of_18 : decode cX8_of 18 = .ok (.ifCond .lt 8, 3) := by decide +kernel
theorem dX8_of_21 : decode cX8_of 21 = .ok (.iload_n 2, 1) := by decide +kernel
theorem dX8_of_22 : decode cX8_of 22 = .ok (.iconst 5, 1) := by decide +kernel
theorem dX8_of_23 : decode cX8_of 23 = .ok (.if_icmp .le 9, 3) := by decide +kernel
theorem dX8_of_26 : decode cX8_of 26 = .ok (.aload_n 0, 1) := by decide +kernel
theorem dX8_of_27 : decode cX8_of 27 = .ok (.iconst 2, 1) := by decide +kernel
theorem dX8_of_28 : decode cX8_of 28 = .ok (.invokevirtual 54, 3) := by decide +kernel
theorem dX8_of_31 : decode cX8_of 31 = .ok (.ireturn, 1) := by decide +kernel
theorem dX8_of_32 : decode cX8_of 32 = .ok (.aload_n 0, 1) := by decide +kernel
theorem dX8_of_33 : decode cX8_of 33 = .ok (.getfield 20, 3) := by decide +kernel
theorem dX8_of_36 : decode cX8_of 36 = .ok (.getfield 93, 3) := by decide +kernel
theorem dX8_of_39 : decode cX8_of 39 = .ok (.iload_n 1, 1) := by decide +kernel
theorem dX8_of_40 : decode cX8_of 40 = .ok (.aaload, 1) := by decide +kernel
theorem dX8_of_41 : decode cX8_of 41 = .ok (.iload_n 2, 1) := by decide +kernel
theorem dX8_of_42 : decode cX8_of 42 = .ok (.invokevirtual 127, 3) := by decide +kernel
theorem dX8_of_45 : decode cX8_of 45 = .ok (.ireturn, 1) := by decide +kernel
theorem dX8_has_0 : decode cX8_has 0 = .ok (.aload_n 0, 1) := by decide +kernel
theorem dX8_has_1 : decode cX8_has 1 = .ok (.getfield 20, 3) := by decide +kernel
theorem dX8_has_4 : decode cX8_has 4 = .ok (.getfield 130, 3) := by decide +kernel
theorem dX8_has_7 : decode cX8_has 7 = .ok (.iload_n 1, 1) := by decide +kernel
theorem dX8_has_8 : decode cX8_has 8 = .ok (.invokevirtual 134, 3) := by decide +kernel
theorem dX8_has_11 : decode cX8_has 11 = .ok (.ifCond .ne 9, 3) := by decide +kernel
theorem dX8_has_14 : decode cX8_has 14 = .ok (.aload_n 0, 1) := by decide +kernel
theorem dX8_has_15 : decode cX8_has 15 = .ok (.iconst 1, 1) := by decide +kernel
theorem dX8_has_16 : decode cX8_has 16 = .ok (.invokevirtual 54, 3) := by decide +kernel
theorem dX8_has_19 : decode cX8_has 19 = .ok (.ireturn, 1) := by decide +kernel
theorem dX8_has_20 : decode cX8_has 20 = .ok (.aload_n 0, 1) := by decide +kernel
theorem dX8_has_21 : decode cX8_has 21 = .ok (.getfield 20, 3) := by decide +kernel
theorem dX8_has_24 : decode cX8_has 24 = .ok (.getfield 130, 3) := by decide +kernel
theorem dX8_has_27 : decode cX8_has 27 = .ok (.iload_n 1, 1) := by decide +kernel
theorem dX8_has_28 : decode cX8_has 28 = .ok (.invokevirtual 139, 3) := by decide +kernel
theorem dX8_has_31 : decode cX8_has 31 = .ok (.ifCond .eq 7, 3) := by decide +kernel
theorem dX8_has_34 : decode cX8_has 34 = .ok (.iconst 1, 1) := by decide +kernel
theorem dX8_has_35 : decode cX8_has 35 = .ok (.goto 4, 3) := by decide +kernel
theorem dX8_has_38 : decode cX8_has 38 = .ok (.iconst 0, 1) := by decide +kernel
theorem dX8_has_39 : decode cX8_has 39 = .ok (.ireturn, 1) := by decide +kernel
theorem dX8_haste_0 : decode cX8_haste 0 = .ok (.aload_n 0, 1) := by decide +kernel
theorem dX8_haste_1 : decode cX8_haste 1 = .ok (.getfield 20, 3) := by decide +kernel
theorem dX8_haste_4 : decode cX8_haste 4 = .ok (.iload_n 1, 1) := by decide +kernel
theorem dX8_haste_5 : decode cX8_haste 5 = .ok (.invokevirtual 83, 3) := by decide +kernel
theorem dX8_haste_8 : decode cX8_haste 8 = .ok (.ifCond .eq 17, 3) := by decide +kernel
theorem dX8_haste_11 : decode cX8_haste 11 = .ok (.aload_n 0, 1) := by decide +kernel
theorem dX8_haste_12 : decode cX8_haste 12 = .ok (.getfield 20, 3) := by decide +kernel
theorem dX8_haste_15 : decode cX8_haste 15 = .ok (.getfield 130, 3) := by decide +kernel
theorem dX8_haste_18 : decode cX8_haste 18 = .ok (.iload_n 2, 1) := by decide +kernel
theorem dX8_haste_19 : decode cX8_haste 19 = .ok (.invokevirtual 134, 3) := by decide +kernel
theorem dX8_haste_22 : decode cX8_haste 22 = .ok (.ifCond .ne 9, 3) := by decide +kernel
theorem dX8_haste_25 : decode cX8_haste 25 = .ok (.aload_n 0, 1) := by decide +kernel
theorem dX8_haste_26 : decode cX8_haste 26 = .ok (.iconst 1, 1) := by decide +kernel
theorem dX8_haste_27 : decode cX8_haste 27 = .ok (.invokevirtual 54, 3) := by decide +kernel
theorem dX8_haste_30 : decode cX8_haste 30 = .ok (.ireturn, 1) := by decide +kernel
theorem dX8_haste_31 : decode cX8_haste 31 = .ok (.aload_n 0, 1) := by decide +kernel
theorem dX8_haste_32 : decode cX8_haste 32 = .ok (.getfield 20, 3) := by decide +kernel
theorem dX8_haste_35 : decode cX8_haste 35 = .ok (.getfield 93, 3) := by decide +kernel
theorem dX8_haste_38 : decode cX8_haste 38 = .ok (.iload_n 1, 1) := by decide +kernel
theorem dX8_haste_39 : decode cX8_haste 39 = .ok (.aaload, 1) := by decide +kernel
theorem dX8_haste_40 : decode cX8_haste 40 = .ok (.astore_n 3, 1) := by decide +kernel
theorem dX8_haste_41 : decode cX8_haste 41 = .ok (.aload_n 3, 1) := by decide +kernel
theorem dX8_haste_42 : decode cX8_haste 42 = .ok (.aload_n 0, 1) := by decide +kernel
theorem dX8_haste_43 : decode cX8_haste 43 = .ok (.getfield 20, 3) := by decide +kernel
theorem dX8_haste_46 : decode cX8_haste 46 = .ok (.getfield 130, 3) := by decide +kernel
theorem dX8_haste_49 : decode cX8_haste 49 = .ok (.aload_n 3, 1) := by decide +kernel
theorem dX8_haste_50 : decode cX8_haste 50 = .ok (.getfield 142, 3) := by decide +kernel
theorem dX8_haste_53 : decode cX8_haste 53 = .ok (.iload_n 2, 1) := by decide +kernel
theorem dX8_haste_54 : decode cX8_haste 54 = .ok (.invokevirtual 145, 3) := by decide +kernel
theorem dX8_haste_57 : decode cX8_haste 57 = .ok (.invokevirtual 148, 3) := by decide +kernel
theorem dX8_haste_60 : decode cX8_haste 60 = .ok (.ireturn, 1) := by decide +kernel
theorem dX8_go_0 : decode cX8_go 0 = .ok (.aload_n 0, 1) := by decide +kernel
theorem dX8_go_1 : decode cX8_go 1 = .ok (.getfield 20, 3) := by decide +kernel
theorem dX8_go_4 : decode cX8_go 4 = .ok (.invokevirtual 151, 3) := by decide +kernel
theorem dX8_go_7 : decode cX8_go 7 = .ok (.ifCond .eq 14, 3) := by decide +kernel
theorem dX8_go_10 : decode cX8_go 10 = .ok (.iload_n 1, 1) := by decide +kernel
theorem dX8_go_11 : decode cX8_go 11 = .ok (.iconst 1, 1) := by decide +kernel
theorem dX8_go_12 : decode cX8_go 12 = .ok (.sipush 300, 3) := by decide +kernel
theorem dX8_go_15 : decode cX8_go 15 = .ok (.invokestatic 118, 3) := by decide +kernel
theorem dX8_go_18 : decode cX8_go 18 = .ok (.goto 4, 3) := by decide +kernel
theorem dX8_go_21 : decode cX8_go 21 = .ok (.iconst 3, 1) := by decide +kernel
theorem dX8_go_22 : decode cX8_go 22 = .ok (.istore_n 2, 1) := by decide +kernel
theorem dX8_go_23 : decode cX8_go 23 = .ok (.iload_n 2, 1) := by decide +kernel
theorem dX8_go_24 : decode cX8_go 24 = .ok (.ifCond .eq 9, 3) := by decide +kernel
theorem dX8_go_27 : decode cX8_go 27 = .ok (.aload_n 0, 1) := by decide +kernel
theorem dX8_go_28 : decode cX8_go 28 = .ok (.iload_n 2, 1) := by decide +kernel
theorem dX8_go_29 : decode cX8_go 29 = .ok (.invokevirtual 54, 3) := by decide +kernel
theorem dX8_go_32 : decode cX8_go 32 = .ok (.ireturn, 1) := by decide +kernel
theorem dX8_go_33 : decode cX8_go 33 = .ok (.iconst 0, 1) := by decide +kernel
theorem dX8_go_34 : decode cX8_go 34 = .ok (.istore_n 3, 1) := by decide +kernel
theorem dX8_go_35 : decode cX8_go 35 = .ok (.iload_n 3, 1) := by decide +kernel
theorem dX8_go_36 : decode cX8_go 36 = .ok (.iload_n 1, 1) := by decide +kernel
theorem dX8_go_37 : decode cX8_go 37 = .ok (.if_icmp .ge 43, 3) := by decide +kernel
theorem dX8_go_40 : decode cX8_go 40 = .ok (.aload_n 0, 1) := by decide +kernel
theorem dX8_go_41 : decode cX8_go 41 = .ok (.getfield 20, 3) := by decide +kernel
theorem dX8_go_44 : decode cX8_go 44 = .ok (.invokevirtual 155, 3) := by decide +kernel
theorem dX8_go_47 : decode cX8_go 47 = .ok (.ifCond .eq 27, 3) := by decide +kernel
theorem dX8_go_50 : decode cX8_go 50 = .ok (.aload_n 0, 1) := by decide +kernel
theorem dX8_go_51 : decode cX8_go 51 = .ok (.getfield 20, 3) := by decide +kernel
theorem dX8_go_54 : decode cX8_go 54 = .ok (.invokevirtual 158, 3) := by decide +kernel
theorem dX8_go_57 : decode cX8_go 57 = .ok (.pop, 1) := by decide +kernel
theorem dX8_go_58 : decode cX8_go 58 = .ok (.aload_n 0, 1) := by decide +kernel
theorem dX8_go_59 : decode cX8_go 59 = .ok (.getfield 20, 3) := by decide +kernel
theorem dX8_go_62 : decode cX8_go 62 = .ok (.getfield 162, 3) := by decide +kernel
theorem dX8_go_65 : decode cX8_go 65 = .ok (.ifCond .eq 7, 3) := by decide +kernel
theorem dX8_go_68 : decode cX8_go 68 = .ok (.iconst 2, 1) := by decide +kernel
theorem dX8_go_69 : decode cX8_go 69 = .ok (.goto 4, 3) := by decide +kernel
theorem dX8_go_72 : decode cX8_go 72 = .ok (.iconst 1, 1) := by decide +kernel
theorem dX8_go_73 : decode cX8_go 73 = .ok (.ireturn, 1) := by decide +kernel
theorem dX8_go_74 : decode cX8_go 74 = .ok (.iinc 3 1, 3) := by decide +kernel
theorem dX8_go_77 : decode cX8_go 77 = .ok (.goto (-42), 3) := by decide +kernel
theorem dX8_go_80 : decode cX8_go 80 = .ok (.iconst 0, 1) := by decide +kernel
theorem dX8_go_81 : decode cX8_go 81 = .ok (.ireturn, 1) := by decide +kernel
theorem dX8_stop_0 : decode cX8_stop 0 = .ok (.aload_n 0, 1) := by decide +kernel
theorem dX8_stop_1 : decode cX8_stop 1 = .ok (.getfield 20, 3) := by decide +kernel
theorem dX8_stop_4 : decode cX8_stop 4 = .ok (.invokevirtual 151, 3) := by decide +kernel
theorem dX8_stop_7 : decode cX8_stop 7 = .ok (.ifCond .eq 13, 3) := by decide +kernel
theorem dX8_stop_10 : decode cX8_stop 10 = .ok (.aload_n 0, 1) := by decide +kernel
theorem dX8_stop_11 : decode cX8_stop 11 = .ok (.getfield 20, 3) := by decide +kernel
theorem dX8_stop_14 : decode cX8_stop 14 = .ok (.invokevirtual 158, 3) := by decide +kernel
theorem dX8_stop_17 : decode cX8_stop 17 = .ok (.goto 8, 3) := by decide +kernel
theorem dX8_stop_20 : decode cX8_stop 20 = .ok (.aload_n 0, 1) := by decide +kernel
theorem dX8_stop_21 : decode cX8_stop 21 = .ok (.iconst 3, 1) := by decide +kernel
theorem dX8_stop_22 : decode cX8_stop 22 = .ok (.invokevirtual 54, 3) := by decide +kernel
theorem dX8_stop_25 : decode cX8_stop 25 = .ok (.ireturn, 1) := by decide +kernel
theorem dX8_sits_0 : decode cX8_sits 0 = .ok (.aload_n 0, 1) := by decide +kernel
theorem dX8_sits_1 : decode cX8_sits 1 = .ok (.getfield 20, 3) := by decide +kernel
theorem dX8_sits_4 : decode cX8_sits 4 = .ok (.iload_n 1, 1) := by decide +kernel
theorem dX8_sits_5 : decode cX8_sits 5 = .ok (.invokevirtual 165, 3) := by decide +kernel
theorem dX8_sits_8 : decode cX8_sits 8 = .ok (.ifCond .ne 9, 3) := by decide +kernel
theorem dX8_sits_11 : decode cX8_sits 11 = .ok (.aload_n 0, 1) := by decide +kernel
theorem dX8_sits_12 : decode cX8_sits 12 = .ok (.iconst 1, 1) := by decide +kernel
theorem dX8_sits_13 : decode cX8_sits 13 = .ok (.invokevirtual 54, 3) := by decide +kernel
theorem dX8_sits_16 : decode cX8_sits 16 = .ok (.ireturn, 1) := by decide +kernel
theorem dX8_sits_17 : decode cX8_sits 17 = .ok (.aload_n 0, 1) := by decide +kernel
theorem dX8_sits_18 : decode cX8_sits 18 = .ok (.getfield 20, 3) := by decide +kernel
theorem dX8_sits_21 : decode cX8_sits 21 = .ok (.getfield 168, 3) := by decide +kernel
theorem dX8_sits_24 : decode cX8_sits 24 = .ok (.aload_n 0, 1) := by decide +kernel
theorem dX8_sits_25 : decode cX8_sits 25 = .ok (.getfield 20, 3) := by decide +kernel
theorem dX8_sits_28 : decode cX8_sits 28 = .ok (.invokevirtual 172, 3) := by decide +kernel
theorem dX8_sits_31 : decode cX8_sits 31 = .ok (.aload_n 0, 1) := by decide +kernel
theorem dX8_sits_32 : decode cX8_sits 32 = .ok (.getfield 20, 3) := by decide +kernel
theorem dX8_sits_35 : decode cX8_sits 35 = .ok (.getfield 168, 3) := by decide +kernel
theorem dX8_sits_38 : decode cX8_sits 38 = .ok (.iload_n 1, 1) := by decide +kernel
theorem dX8_sits_39 : decode cX8_sits 39 = .ok (.aload_n 0, 1) := by decide +kernel
theorem dX8_sits_40 : decode cX8_sits 40 = .ok (.getfield 20, 3) := by decide +kernel
theorem dX8_sits_43 : decode cX8_sits 43 = .ok (.getfield 130, 3) := by decide +kernel
theorem dX8_sits_46 : decode cX8_sits 46 = .ok (.invokevirtual 178, 3) := by decide +kernel
theorem dX8_sits_49 : decode cX8_sits 49 = .ok (.ireturn, 1) := by decide +kernel
theorem dX8_would_0 : decode cX8_would 0 = .ok (.iload_n 1, 1) := by decide +kernel
theorem dX8_would_1 : decode cX8_would 1 = .ok (.ifCond .lt 8, 3) := by decide +kernel
theorem dX8_would_4 : decode cX8_would 4 = .ok (.iload_n 1, 1) := by decide +kernel
theorem dX8_would_5 : decode cX8_would 5 = .ok (.iconst 1, 1) := by decide +kernel
theorem dX8_would_6 : decode cX8_would 6 = .ok (.if_icmp .le 9, 3) := by decide +kernel
theorem dX8_would_9 : decode cX8_would 9 = .ok (.aload_n 0, 1) := by decide +kernel
theorem dX8_would_10 : decode cX8_would 10 = .ok (.iconst 2, 1) := by decide +kernel
theorem dX8_would_11 : decode cX8_would 11 = .ok (.invokevirtual 54, 3) := by decide +kernel
theorem dX8_would_14 : decode cX8_would 14 = .ok (.ireturn, 1) := by decide +kernel
theorem dX8_would_15 : decode cX8_would 15 = .ok (.aload_n 0, 1) := by decide +kernel
theorem dX8_would_16 : decode cX8_would 16 = .ok (.getfield 20, 3) := by decide +kernel
theorem dX8_would_19 : decode cX8_would 19 = .ok (.getfield 168, 3) := by decide +kernel
theorem dX8_would_22 : decode cX8_would 22 = .ok (.aload_n 0, 1) := by decide +kernel
theorem dX8_would_23 : decode cX8_would 23 = .ok (.getfield 20, 3) := by decide +kernel
theorem dX8_would_26 : decode cX8_would 26 = .ok (.invokevirtual 172, 3) := by decide +kernel
theorem dX8_would_29 : decode cX8_would 29 = .ok (.aload_n 0, 1) := by decide +kernel
theorem dX8_would_30 : decode cX8_would 30 = .ok (.getfield 20, 3) := by decide +kernel
theorem dX8_would_33 : decode cX8_would 33 = .ok (.invokevirtual 182, 3) := by decide +kernel
theorem dX8_would_36 : decode cX8_would 36 = .ok (.istore_n 2, 1) := by decide +kernel
theorem dX8_would_37 : decode cX8_would 37 = .ok (.iload_n 1, 1) := by decide +kernel
theorem dX8_would_38 : decode cX8_would 38 = .ok (.ifCond .ne 5, 3) := by decide +kernel
theorem dX8_would_41 : decode cX8_would 41 = .ok (.iload_n 2, 1) := by decide +kernel
theorem dX8_would_42 : decode cX8_would 42 = .ok (.ireturn, 1) := by decide +kernel
theorem dX8_would_43 : decode cX8_would 43 = .ok (.aload_n 0, 1) := by decide +kernel
theorem dX8_would_44 : decode cX8_would 44 = .ok (.getfield 20, 3) := by decide +kernel
theorem dX8_would_47 : decode cX8_would 47 = .ok (.iload_n 2, 1) := by decide +kernel
theorem dX8_would_48 : decode cX8_would 48 = .ok (.invokevirtual 185, 3) := by decide +kernel
theorem dX8_would_51 : decode cX8_would 51 = .ok (.ifCond .eq 23, 3) := by decide +kernel
theorem dX8_would_54 : decode cX8_would 54 = .ok (.aload_n 0, 1) := by decide +kernel
theorem dX8_would_55 : decode cX8_would 55 = .ok (.getfield 20, 3) := by decide +kernel
theorem dX8_would_58 : decode cX8_would 58 = .ok (.getfield 130, 3) := by decide +kernel
theorem dX8_would_61 : decode cX8_would 61 = .ok (.aload_n 0, 1) := by decide +kernel
theorem dX8_would_62 : decode cX8_would 62 = .ok (.getfield 20, 3) := by decide +kernel
theorem dX8_would_65 : decode cX8_would 65 = .ok (.getfield 121, 3) := by decide +kernel
theorem dX8_would_68 : decode cX8_would 68 = .ok (.invokevirtual 188, 3) := by decide +kernel
theorem dX8_would_71 : decode cX8_would 71 = .ok (.goto 5, 3) := by decide +kernel
theorem dX8_would_74 : decode cX8_would 74 = .ok (.bipush (-9), 2) := by decide +kernel
theorem dX8_would_76 : decode cX8_would 76 = .ok (.ireturn, 1) := by decide +kernel
theorem dX8_odds_0 : decode cX8_odds 0 = .ok (.aload_n 0, 1) := by decide +kernel
theorem dX8_odds_1 : decode cX8_odds 1 = .ok (.getfield 20, 3) := by decide +kernel
theorem dX8_odds_4 : decode cX8_odds 4 = .ok (.iload_n 1, 1) := by decide +kernel
theorem dX8_odds_5 : decode cX8_odds 5 = .ok (.invokevirtual 165, 3) := by decide +kernel
theorem dX8_odds_8 : decode cX8_odds 8 = .ok (.ifCond .eq 14, 3) := by decide +kernel
theorem dX8_odds_11 : decode cX8_odds 11 = .ok (.iload_n 2, 1) := by decide +kernel
theorem dX8_odds_12 : decode cX8_odds 12 = .ok (.iconst 1, 1) := by decide +kernel
theorem dX8_odds_13 : decode cX8_odds 13 = .ok (.sipush 200, 3) := by decide +kernel
theorem dX8_odds_16 : decode cX8_odds 16 = .ok (.invokestatic 118, 3) := by decide +kernel
theorem dX8_odds_19 : decode cX8_odds 19 = .ok (.goto 4, 3) := by decide +kernel
theorem dX8_odds_22 : decode cX8_odds 22 = .ok (.iconst 1, 1) := by decide +kernel
theorem dX8_odds_23 : decode cX8_odds 23 = .ok (.istore_n 3, 1) := by decide +kernel
theorem dX8_odds_24 : decode cX8_odds 24 = .ok (.iload_n 3, 1) := by decide +kernel
theorem dX8_odds_25 : decode cX8_odds 25 = .ok (.ifCond .eq 11, 3) := by decide +kernel
theorem dX8_odds_28 : decode cX8_odds 28 = .ok (.aload_n 0, 1) := by decide +kernel
theorem dX8_odds_29 : decode cX8_odds 29 = .ok (.iload_n 3, 1) := by decide +kernel
theorem dX8_odds_30 : decode cX8_odds 30 = .ok (.invokevirtual 54, 3) := by decide +kernel
theorem dX8_odds_33 : decode cX8_odds 33 = .ok (.goto 24, 3) := by decide +kernel
theorem dX8_odds_36 : decode cX8_odds 36 = .ok (.aload_n 0, 1) := by decide +kernel
theorem dX8_odds_37 : decode cX8_odds 37 = .ok (.getfield 10, 3) := by decide +kernel
theorem dX8_odds_40 : decode cX8_odds 40 = .ok (.iload_n 1, 1) := by decide +kernel
theorem dX8_odds_41 : decode cX8_odds 41 = .ok (.iload_n 2, 1) := by decide +kernel
theorem dX8_odds_42 : decode cX8_odds 42 = .ok (.aload_n 0, 1) := by decide +kernel
theorem dX8_odds_43 : decode cX8_odds 43 = .ok (.getfield 20, 3) := by decide +kernel
theorem dX8_odds_46 : decode cX8_odds 46 = .ok (.getfield 93, 3) := by decide +kernel
theorem dX8_odds_49 : decode cX8_odds 49 = .ok (.iload_n 1, 1) := by decide +kernel
theorem dX8_odds_50 : decode cX8_odds 50 = .ok (.aaload, 1) := by decide +kernel
theorem dX8_odds_51 : decode cX8_odds 51 = .ok (.getfield 191, 3) := by decide +kernel
theorem dX8_odds_54 : decode cX8_odds 54 = .ok (.invokevirtual 194, 3) := by decide +kernel
theorem dX8_odds_57 : decode cX8_odds 57 = .ok (.ireturn, 1) := by decide +kernel
theorem dX8_fair_0 : decode cX8_fair 0 = .ok (.iload_n 1, 1) := by decide +kernel
theorem dX8_fair_1 : decode cX8_fair 1 = .ok (.iconst 1, 1) := by decide +kernel
theorem dX8_fair_2 : decode cX8_fair 2 = .ok (.sipush 200, 3) := by decide +kernel
theorem dX8_fair_5 : decode cX8_fair 5 = .ok (.invokestatic 118, 3) := by decide +kernel
theorem dX8_fair_8 : decode cX8_fair 8 = .ok (.istore_n 2, 1) := by decide +kernel
theorem dX8_fair_9 : decode cX8_fair 9 = .ok (.iload_n 2, 1) := by decide +kernel
theorem dX8_fair_10 : decode cX8_fair 10 = .ok (.ifCond .eq 11, 3) := by decide +kernel
theorem dX8_fair_13 : decode cX8_fair 13 = .ok (.aload_n 0, 1) := by decide +kernel
theorem dX8_fair_14 : decode cX8_fair 14 = .ok (.iload_n 2, 1) := by decide +kernel
theorem dX8_fair_15 : decode cX8_fair 15 = .ok (.invokevirtual 54, 3) := by decide +kernel
theorem dX8_fair_18 : decode cX8_fair 18 = .ok (.goto 11, 3) := by decide +kernel
theorem dX8_fair_21 : decode cX8_fair 21 = .ok (.aload_n 0, 1) := by decide +kernel
theorem dX8_fair_22 : decode cX8_fair 22 = .ok (.getfield 10, 3) := by decide +kernel
theorem dX8_fair_25 : decode cX8_fair 25 = .ok (.iload_n 1, 1) := by decide +kernel
theorem dX8_fair_26 : decode cX8_fair 26 = .ok (.invokevirtual 197, 3) := by decide +kernel
theorem dX8_fair_29 : decode cX8_fair 29 = .ok (.ireturn, 1) := by decide +kernel
theorem dX8_bestSlow_0 : decode cX8_bestSlow 0 = .ok (.aload_n 0, 1) := by decide +kernel
theorem dX8_bestSlow_1 : decode cX8_bestSlow 1 = .ok (.getfield 20, 3) := by decide +kernel
theorem dX8_bestSlow_4 : decode cX8_bestSlow 4 = .ok (.iload_n 1, 1) := by decide +kernel
theorem dX8_bestSlow_5 : decode cX8_bestSlow 5 = .ok (.invokevirtual 83, 3) := by decide +kernel
theorem dX8_bestSlow_8 : decode cX8_bestSlow 8 = .ok (.ifCond .eq 14, 3) := by decide +kernel
theorem dX8_bestSlow_11 : decode cX8_bestSlow 11 = .ok (.iload_n 2, 1) := by decide +kernel
theorem dX8_bestSlow_12 : decode cX8_bestSlow 12 = .ok (.iconst 1, 1) := by decide +kernel
theorem dX8_bestSlow_13 : decode cX8_bestSlow 13 = .ok (.sipush 200, 3) := by decide +kernel
theorem dX8_bestSlow_16 : decode cX8_bestSlow 16 = .ok (.invokestatic 118, 3) := by decide +kernel
theorem dX8_bestSlow_19 : decode cX8_bestSlow 19 = .ok (.goto 4, 3) := by decide +kernel
theorem dX8_bestSlow_22 : decode cX8_bestSlow 22 = .ok (.iconst 1, 1) := by decide +kernel
theorem dX8_bestSlow_23 : decode cX8_bestSlow 23 = .ok (.istore_n 3, 1) := by decide +kernel
theorem dX8_bestSlow_24 : decode cX8_bestSlow 24 = .ok (.iload_n 3, 1) := by decide +kernel
theorem dX8_bestSlow_25 : decode cX8_bestSlow 25 = .ok (.ifCond .eq 11, 3) := by decide +kernel
theorem dX8_bestSlow_28 : decode cX8_bestSlow 28 = .ok (.aload_n 0, 1) := by decide +kernel
theorem dX8_bestSlow_29 : decode cX8_bestSlow 29 = .ok (.iload_n 3, 1) := by decide +kernel
theorem dX8_bestSlow_30 : decode cX8_bestSlow 30 = .ok (.invokevirtual 54, 3) := by decide +kernel
theorem dX8_bestSlow_33 : decode cX8_bestSlow 33 = .ok (.goto 12, 3) := by decide +kernel
theorem dX8_bestSlow_36 : decode cX8_bestSlow 36 = .ok (.aload_n 0, 1) := by decide +kernel
theorem dX8_bestSlow_37 : decode cX8_bestSlow 37 = .ok (.getfield 10, 3) := by decide +kernel
theorem dX8_bestSlow_40 : decode cX8_bestSlow 40 = .ok (.iload_n 1, 1) := by decide +kernel
theorem dX8_bestSlow_41 : decode cX8_bestSlow 41 = .ok (.iload_n 2, 1) := by decide +kernel
theorem dX8_bestSlow_42 : decode cX8_bestSlow 42 = .ok (.invokevirtual 200, 3) := by decide +kernel
theorem dX8_bestSlow_45 : decode cX8_bestSlow 45 = .ok (.ireturn, 1) := by decide +kernel
theorem dX8_cheat_0 : decode cX8_cheat 0 = .ok (.aload_n 0, 1) := by decide +kernel
theorem dX8_cheat_1 : decode cX8_cheat 1 = .ok (.getfield 20, 3) := by decide +kernel
theorem dX8_cheat_4 : decode cX8_cheat 4 = .ok (.iload_n 1, 1) := by decide +kernel
theorem dX8_cheat_5 : decode cX8_cheat 5 = .ok (.invokevirtual 83, 3) := by decide +kernel
theorem dX8_cheat_8 : decode cX8_cheat 8 = .ok (.ifCond .eq 14, 3) := by decide +kernel
theorem dX8_cheat_11 : decode cX8_cheat 11 = .ok (.iload_n 2, 1) := by decide +kernel
theorem dX8_cheat_12 : decode cX8_cheat 12 = .ok (.iconst 1, 1) := by decide +kernel
theorem dX8_cheat_13 : decode cX8_cheat 13 = .ok (.sipush 200, 3) := by decide +kernel
theorem dX8_cheat_16 : decode cX8_cheat 16 = .ok (.invokestatic 118, 3) := by decide +kernel
theorem dX8_cheat_19 : decode cX8_cheat 19 = .ok (.goto 4, 3) := by decide +kernel
theorem dX8_cheat_22 : decode cX8_cheat 22 = .ok (.iconst 1, 1) := by decide +kernel
theorem dX8_cheat_23 : decode cX8_cheat 23 = .ok (.istore_n 3, 1) := by decide +kernel
theorem dX8_cheat_24 : decode cX8_cheat 24 = .ok (.iload_n 3, 1) := by decide +kernel
theorem dX8_cheat_25 : decode cX8_cheat 25 = .ok (.ifCond .eq 11, 3) := by decide +kernel
theorem dX8_cheat_28 : decode cX8_cheat 28 = .ok (.aload_n 0, 1) := by decide +kernel
theorem dX8_cheat_29 : decode cX8_cheat 29 = .ok (.iload_n 3, 1) := by decide +kernel
theorem dX8_cheat_30 : decode cX8_cheat 30 = .ok (.invokevirtual 54, 3) := by decide +kernel
theorem dX8_cheat_33 : decode cX8_cheat 33 = .ok (.goto 12, 3) := by decide +kernel
theorem dX8_cheat_36 : decode cX8_cheat 36 = .ok (.aload_n 0, 1) := by decide +kernel
theorem dX8_cheat_37 : decode cX8_cheat 37 = .ok (.getfield 10, 3) := by decide +kernel
theorem dX8_cheat_40 : decode cX8_cheat 40 = .ok (.iload_n 1, 1) := by decide +kernel
theorem dX8_cheat_41 : decode cX8_cheat 41 = .ok (.iload_n 2, 1) := by decide +kernel
theorem dX8_cheat_42 : decode cX8_cheat 42 = .ok (.invokevirtual 203, 3) := by decide +kernel
theorem dX8_cheat_45 : decode cX8_cheat 45 = .ok (.ireturn, 1) := by decide +kernel
theorem dX8_lasts_0 : decode cX8_lasts 0 = .ok (.iload_n 1, 1) := by decide +kernel
theorem dX8_lasts_1 : decode cX8_lasts 1 = .ok (.ifCond .lt 8, 3) := by decide +kernel
theorem dX8_lasts_4 : decode cX8_lasts 4 = .ok (.iload_n 1, 1) := by decide +kernel
theorem dX8_lasts_5 : decode cX8_lasts 5 = .ok (.iconst 2, 1) := by decide +kernel
theorem dX8_lasts_6 : decode cX8_lasts 6 = .ok (.if_icmp .le 9, 3) := by decide +kernel
theorem dX8_lasts_9 : decode cX8_lasts 9 = .ok (.aload_n 0, 1) := by decide +kernel
theorem dX8_lasts_10 : decode cX8_lasts 10 = .ok (.iconst 2, 1) := by decide +kernel
theorem dX8_lasts_11 : decode cX8_lasts 11 = .ok (.invokevirtual 54, 3) := by decide +kernel
theorem dX8_lasts_14 : decode cX8_lasts 14 = .ok (.ireturn, 1) := by decide +kernel
theorem dX8_lasts_15 : decode cX8_lasts 15 = .ok (.aload_n 0, 1) := by decide +kernel
theorem dX8_lasts_16 : decode cX8_lasts 16 = .ok (.getfield 20, 3) := by decide +kernel
theorem dX8_lasts_19 : decode cX8_lasts 19 = .ok (.invokevirtual 151, 3) := by decide +kernel
theorem dX8_lasts_22 : decode cX8_lasts 22 = .ok (.ifCond .eq 14, 3) := by decide +kernel
theorem dX8_lasts_25 : decode cX8_lasts 25 = .ok (.aload_n 0, 1) := by decide +kernel
theorem dX8_lasts_26 : decode cX8_lasts 26 = .ok (.getfield 10, 3) := by decide +kernel
theorem dX8_lasts_29 : decode cX8_lasts 29 = .ok (.iload_n 1, 1) := by decide +kernel
theorem dX8_lasts_30 : decode cX8_lasts 30 = .ok (.invokevirtual 206, 3) := by decide +kernel
theorem dX8_lasts_33 : decode cX8_lasts 33 = .ok (.goto 8, 3) := by decide +kernel
theorem dX8_lasts_36 : decode cX8_lasts 36 = .ok (.aload_n 0, 1) := by decide +kernel
theorem dX8_lasts_37 : decode cX8_lasts 37 = .ok (.iconst 3, 1) := by decide +kernel
theorem dX8_lasts_38 : decode cX8_lasts 38 = .ok (.invokevirtual 54, 3) := by decide +kernel
theorem dX8_lasts_41 : decode cX8_lasts 41 = .ok (.ireturn, 1) := by decide +kernel
theorem dX8_wins_0 : decode cX8_wins 0 = .ok (.aload_n 0, 1) := by decide +kernel
theorem dX8_wins_1 : decode cX8_wins 1 = .ok (.getfield 20, 3) := by decide +kernel
theorem dX8_wins_4 : decode cX8_wins 4 = .ok (.iload_n 1, 1) := by decide +kernel
theorem dX8_wins_5 : decode cX8_wins 5 = .ok (.invokevirtual 83, 3) := by decide +kernel
theorem dX8_wins_8 : decode cX8_wins 8 = .ok (.ifCond .eq 11, 3) := by decide +kernel
theorem dX8_wins_11 : decode cX8_wins 11 = .ok (.aload_n 0, 1) := by decide +kernel
theorem dX8_wins_12 : decode cX8_wins 12 = .ok (.iload_n 2, 1) := by decide +kernel
theorem dX8_wins_13 : decode cX8_wins 13 = .ok (.invokevirtual 209, 3) := by decide +kernel
theorem dX8_wins_16 : decode cX8_wins 16 = .ok (.goto 4, 3) := by decide +kernel
theorem dX8_wins_19 : decode cX8_wins 19 = .ok (.iconst 1, 1) := by decide +kernel
theorem dX8_wins_20 : decode cX8_wins 20 = .ok (.istore 4, 2) := by decide +kernel
theorem dX8_wins_22 : decode cX8_wins 22 = .ok (.iload 4, 2) := by decide +kernel
theorem dX8_wins_24 : decode cX8_wins 24 = .ok (.ifCond .eq 12, 3) := by decide +kernel
theorem dX8_wins_27 : decode cX8_wins 27 = .ok (.aload_n 0, 1) := by decide +kernel
theorem dX8_wins_28 : decode cX8_wins 28 = .ok (.iload 4, 2) := by decide +kernel
theorem dX8_wins_30 : decode cX8_wins 30 = .ok (.invokevirtual 54, 3) := by decide +kernel
theorem dX8_wins_33 : decode cX8_wins 33 = .ok (.goto 13, 3) := by decide +kernel
theorem dX8_wins_36 : decode cX8_wins 36 = .ok (.aload_n 0, 1) := by decide +kernel
theorem dX8_wins_37 : decode cX8_wins 37 = .ok (.getfield 10, 3) := by decide +kernel
theorem dX8_wins_40 : decode cX8_wins 40 = .ok (.iload_n 1, 1) := by decide +kernel
theorem dX8_wins_41 : decode cX8_wins 41 = .ok (.iload_n 2, 1) := by decide +kernel
theorem dX8_wins_42 : decode cX8_wins 42 = .ok (.iload_n 3, 1) := by decide +kernel
theorem dX8_wins_43 : decode cX8_wins 43 = .ok (.invokevirtual 212, 3) := by decide +kernel
theorem dX8_wins_46 : decode cX8_wins 46 = .ok (.ireturn, 1) := by decide +kernel
theorem dX8_fairest_0 : decode cX8_fairest 0 = .ok (.aload_n 0, 1) := by decide +kernel
theorem dX8_fairest_1 : decode cX8_fairest 1 = .ok (.iload_n 1, 1) := by decide +kernel
theorem dX8_fairest_2 : decode cX8_fairest 2 = .ok (.invokevirtual 209, 3) := by decide +kernel
theorem dX8_fairest_5 : decode cX8_fairest 5 = .ok (.istore_n 3, 1) := by decide +kernel
theorem dX8_fairest_6 : decode cX8_fairest 6 = .ok (.iload_n 3, 1) := by decide +kernel
theorem dX8_fairest_7 : decode cX8_fairest 7 = .ok (.ifCond .eq 11, 3) := by decide +kernel
theorem dX8_fairest_10 : decode cX8_fairest 10 = .ok (.aload_n 0, 1) := by decide +kernel
theorem dX8_fairest_11 : decode cX8_fairest 11 = .ok (.iload_n 3, 1) := by decide +kernel
theorem dX8_fairest_12 : decode cX8_fairest 12 = .ok (.invokevirtual 54, 3) := by decide +kernel
theorem dX8_fairest_15 : decode cX8_fairest 15 = .ok (.goto 12, 3) := by decide +kernel
theorem dX8_fairest_18 : decode cX8_fairest 18 = .ok (.aload_n 0, 1) := by decide +kernel
theorem dX8_fairest_19 : decode cX8_fairest 19 = .ok (.getfield 10, 3) := by decide +kernel
theorem dX8_fairest_22 : decode cX8_fairest 22 = .ok (.iload_n 1, 1) := by decide +kernel
theorem dX8_fairest_23 : decode cX8_fairest 23 = .ok (.iload_n 2, 1) := by decide +kernel
theorem dX8_fairest_24 : decode cX8_fairest 24 = .ok (.invokevirtual 215, 3) := by decide +kernel
theorem dX8_fairest_27 : decode cX8_fairest 27 = .ok (.ireturn, 1) := by decide +kernel
theorem dX8_shortest_0 : decode cX8_shortest 0 = .ok (.aload_n 0, 1) := by decide +kernel
theorem dX8_shortest_1 : decode cX8_shortest 1 = .ok (.getfield 20, 3) := by decide +kernel
theorem dX8_shortest_4 : decode cX8_shortest 4 = .ok (.invokevirtual 151, 3) := by decide +kernel
theorem dX8_shortest_7 : decode cX8_shortest 7 = .ok (.ifCond .eq 13, 3) := by decide +kernel
theorem dX8_shortest_10 : decode cX8_shortest 10 = .ok (.aload_n 0, 1) := by decide +kernel
theorem dX8_shortest_11 : decode cX8_shortest 11 = .ok (.getfield 10, 3) := by decide +kernel
theorem dX8_shortest_14 : decode cX8_shortest 14 = .ok (.invokevirtual 218, 3) := by decide +kernel
theorem dX8_shortest_17 : decode cX8_shortest 17 = .ok (.goto 8, 3) := by decide +kernel
theorem dX8_shortest_20 : decode cX8_shortest 20 = .ok (.aload_n 0, 1) := by decide +kernel
theorem dX8_shortest_21 : decode cX8_shortest 21 = .ok (.iconst 3, 1) := by decide +kernel
theorem dX8_shortest_22 : decode cX8_shortest 22 = .ok (.invokevirtual 54, 3) := by decide +kernel
theorem dX8_shortest_25 : decode cX8_shortest 25 = .ok (.ireturn, 1) := by decide +kernel
theorem dX8_row_0 : decode cX8_row 0 = .ok (.iload_n 1, 1) := by decide +kernel
theorem dX8_row_1 : decode cX8_row 1 = .ok (.iconst 1, 1) := by decide +kernel
theorem dX8_row_2 : decode cX8_row 2 = .ok (.sipush 300, 3) := by decide +kernel
theorem dX8_row_5 : decode cX8_row 5 = .ok (.invokestatic 118, 3) := by decide +kernel
theorem dX8_row_8 : decode cX8_row 8 = .ok (.istore_n 2, 1) := by decide +kernel
theorem dX8_row_9 : decode cX8_row 9 = .ok (.iload_n 2, 1) := by decide +kernel
theorem dX8_row_10 : decode cX8_row 10 = .ok (.ifCond .ne 16, 3) := by decide +kernel
theorem dX8_row_13 : decode cX8_row 13 = .ok (.aload_n 0, 1) := by decide +kernel
theorem dX8_row_14 : decode cX8_row 14 = .ok (.getfield 32, 3) := by decide +kernel
theorem dX8_row_17 : decode cX8_row 17 = .ok (.invokevirtual 221, 3) := by decide +kernel
theorem dX8_row_20 : decode cX8_row 20 = .ok (.ifCond .eq 6, 3) := by decide +kernel
theorem dX8_row_23 : decode cX8_row 23 = .ok (.bipush 6, 2) := by decide +kernel
theorem dX8_row_25 : decode cX8_row 25 = .ok (.istore_n 2, 1) := by decide +kernel
theorem dX8_row_26 : decode cX8_row 26 = .ok (.iload_n 2, 1) := by decide +kernel
theorem dX8_row_27 : decode cX8_row 27 = .ok (.ifCond .eq 11, 3) := by decide +kernel
theorem dX8_row_30 : decode cX8_row 30 = .ok (.aload_n 0, 1) := by decide +kernel
theorem dX8_row_31 : decode cX8_row 31 = .ok (.iload_n 2, 1) := by decide +kernel
theorem dX8_row_32 : decode cX8_row 32 = .ok (.invokevirtual 54, 3) := by decide +kernel
theorem dX8_row_35 : decode cX8_row 35 = .ok (.goto 11, 3) := by decide +kernel
theorem dX8_row_38 : decode cX8_row 38 = .ok (.aload_n 0, 1) := by decide +kernel
theorem dX8_row_39 : decode cX8_row 39 = .ok (.getfield 32, 3) := by decide +kernel
theorem dX8_row_42 : decode cX8_row 42 = .ok (.iload_n 1, 1) := by decide +kernel
theorem dX8_row_43 : decode cX8_row 43 = .ok (.invokevirtual 224, 3) := by decide +kernel
theorem dX8_row_46 : decode cX8_row 46 = .ok (.ireturn, 1) := by decide +kernel
theorem dX8_could_0 : decode cX8_could 0 = .ok (.iconst 0, 1) := by decide +kernel
theorem dX8_could_1 : decode cX8_could 1 = .ok (.istore_n 1, 1) := by decide +kernel
theorem dX8_could_2 : decode cX8_could 2 = .ok (.iconst 0, 1) := by decide +kernel
theorem dX8_could_3 : decode cX8_could 3 = .ok (.istore_n 2, 1) := by decide +kernel
theorem dX8_could_4 : decode cX8_could 4 = .ok (.iload_n 2, 1) := by decide +kernel
theorem dX8_could_5 : decode cX8_could 5 = .ok (.iconst 5, 1) := by decide +kernel
theorem dX8_could_6 : decode cX8_could 6 = .ok (.if_icmp .ge 23, 3) := by decide +kernel
theorem dX8_could_9 : decode cX8_could 9 = .ok (.aload_n 0, 1) := by decide +kernel
theorem dX8_could_10 : decode cX8_could 10 = .ok (.iload_n 2, 1) := by decide +kernel
theorem dX8_could_11 : decode cX8_could 11 = .ok (.invokevirtual 226, 3) := by decide +kernel
theorem dX8_could_14 : decode cX8_could 14 = .ok (.ifCond .eq 9, 3) := by decide +kernel
theorem dX8_could_17 : decode cX8_could 17 = .ok (.iload_n 1, 1) := by decide +kernel
theorem dX8_could_18 : decode cX8_could 18 = .ok (.iconst 1, 1) := by decide +kernel
theorem dX8_could_19 : decode cX8_could 19 = .ok (.iload_n 2, 1) := by decide +kernel
theorem dX8_could_20 : decode cX8_could 20 = .ok (.ishl, 1) := by decide +kernel
theorem dX8_could_21 : decode cX8_could 21 = .ok (.ior, 1) := by decide +kernel
theorem dX8_could_22 : decode cX8_could 22 = .ok (.istore_n 1, 1) := by decide +kernel
theorem dX8_could_23 : decode cX8_could 23 = .ok (.iinc 2 1, 3) := by decide +kernel
theorem dX8_could_26 : decode cX8_could 26 = .ok (.goto (-22), 3) := by decide +kernel
theorem dX8_could_29 : decode cX8_could 29 = .ok (.iload_n 1, 1) := by decide +kernel
theorem dX8_could_30 : decode cX8_could 30 = .ok (.ireturn, 1) := by decide +kernel
theorem dX8_next_0 : decode cX8_next 0 = .ok (.iload_n 1, 1) := by decide +kernel
theorem dX8_next_1 : decode cX8_next 1 = .ok (.iconst 1, 1) := by decide +kernel
theorem dX8_next_2 : decode cX8_next 2 = .ok (.sipush 300, 3) := by decide +kernel
theorem dX8_next_5 : decode cX8_next 5 = .ok (.invokestatic 118, 3) := by decide +kernel
theorem dX8_next_8 : decode cX8_next 8 = .ok (.istore_n 2, 1) := by decide +kernel
theorem dX8_next_9 : decode cX8_next 9 = .ok (.iload_n 2, 1) := by decide +kernel
theorem dX8_next_10 : decode cX8_next 10 = .ok (.ifCond .ne 15, 3) := by decide +kernel
theorem dX8_next_13 : decode cX8_next 13 = .ok (.aload_n 0, 1) := by decide +kernel
theorem dX8_next_14 : decode cX8_next 14 = .ok (.getfield 32, 3) := by decide +kernel
theorem dX8_next_17 : decode cX8_next 17 = .ok (.getfield 229, 3) := by decide +kernel
theorem dX8_next_20 : decode cX8_next 20 = .ok (.ifCond .ne 5, 3) := by decide +kernel
theorem dX8_next_23 : decode cX8_next 23 = .ok (.iconst 3, 1) := by decide +kernel
theorem dX8_next_24 : decode cX8_next 24 = .ok (.istore_n 2, 1) := by decide +kernel
theorem dX8_next_25 : decode cX8_next 25 = .ok (.iload_n 2, 1) := by decide +kernel
theorem dX8_next_26 : decode cX8_next 26 = .ok (.ifCond .eq 9, 3) := by decide +kernel
theorem dX8_next_29 : decode cX8_next 29 = .ok (.aload_n 0, 1) := by decide +kernel
theorem dX8_next_30 : decode cX8_next 30 = .ok (.iload_n 2, 1) := by decide +kernel
theorem dX8_next_31 : decode cX8_next 31 = .ok (.invokevirtual 54, 3) := by decide +kernel
theorem dX8_next_34 : decode cX8_next 34 = .ok (.ireturn, 1) := by decide +kernel
theorem dX8_next_35 : decode cX8_next 35 = .ok (.aload_n 0, 1) := by decide +kernel
theorem dX8_next_36 : decode cX8_next 36 = .ok (.getfield 32, 3) := by decide +kernel
theorem dX8_next_39 : decode cX8_next 39 = .ok (.iload_n 1, 1) := by decide +kernel
theorem dX8_next_40 : decode cX8_next 40 = .ok (.invokevirtual 230, 3) := by decide +kernel
theorem dX8_next_43 : decode cX8_next 43 = .ok (.istore_n 3, 1) := by decide +kernel
theorem dX8_next_44 : decode cX8_next 44 = .ok (.aload_n 0, 1) := by decide +kernel
theorem dX8_next_45 : decode cX8_next 45 = .ok (.getfield 32, 3) := by decide +kernel
theorem dX8_next_48 : decode cX8_next 48 = .ok (.iconst 0, 1) := by decide +kernel
theorem dX8_next_49 : decode cX8_next 49 = .ok (.putfield 229, 3) := by decide +kernel
theorem dX8_next_52 : decode cX8_next 52 = .ok (.iload_n 3, 1) := by decide +kernel
theorem dX8_next_53 : decode cX8_next 53 = .ok (.ireturn, 1) := by decide +kernel
theorem dX8_team_0 : decode cX8_team 0 = .ok (.iload_n 1, 1) := by decide +kernel
theorem dX8_team_1 : decode cX8_team 1 = .ok (.iload_n 2, 1) := by decide +kernel
theorem dX8_team_2 : decode cX8_team 2 = .ok (.if_icmp .eq 25, 3) := by decide +kernel
theorem dX8_team_5 : decode cX8_team 5 = .ok (.aload_n 0, 1) := by decide +kernel
theorem dX8_team_6 : decode cX8_team 6 = .ok (.getfield 20, 3) := by decide +kernel
theorem dX8_team_9 : decode cX8_team 9 = .ok (.iload_n 1, 1) := by decide +kernel
theorem dX8_team_10 : decode cX8_team 10 = .ok (.invokevirtual 165, 3) := by decide +kernel
theorem dX8_team_13 : decode cX8_team 13 = .ok (.ifCond .eq 14, 3) := by decide +kernel
theorem dX8_team_16 : decode cX8_team 16 = .ok (.aload_n 0, 1) := by decide +kernel
theorem dX8_team_17 : decode cX8_team 17 = .ok (.getfield 20, 3) := by decide +kernel
theorem dX8_team_20 : decode cX8_team 20 = .ok (.iload_n 2, 1) := by decide +kernel
theorem dX8_team_21 : decode cX8_team 21 = .ok (.invokevirtual 165, 3) := by decide +kernel
theorem dX8_team_24 : decode cX8_team 24 = .ok (.ifCond .ne 9, 3) := by decide +kernel
theorem dX8_team_27 : decode cX8_team 27 = .ok (.aload_n 0, 1) := by decide +kernel
theorem dX8_team_28 : decode cX8_team 28 = .ok (.iconst 1, 1) := by decide +kernel
theorem dX8_team_29 : decode cX8_team 29 = .ok (.invokevirtual 54, 3) := by decide +kernel
theorem dX8_team_32 : decode cX8_team 32 = .ok (.ireturn, 1) := by decide +kernel
theorem dX8_team_33 : decode cX8_team 33 = .ok (.iload 4, 2) := by decide +kernel
theorem dX8_team_35 : decode cX8_team 35 = .ok (.ifCond .lt 9, 3) := by decide +kernel
theorem dX8_team_38 : decode cX8_team 38 = .ok (.iload 4, 2) := by decide +kernel
theorem dX8_team_40 : decode cX8_team 40 = .ok (.iconst 1, 1) := by decide +kernel
theorem dX8_team_41 : decode cX8_team 41 = .ok (.if_icmp .le 9, 3) := by decide +kernel
theorem dX8_team_44 : decode cX8_team 44 = .ok (.aload_n 0, 1) := by decide +kernel
theorem dX8_team_45 : decode cX8_team 45 = .ok (.iconst 2, 1) := by decide +kernel
theorem dX8_team_46 : decode cX8_team 46 = .ok (.invokevirtual 54, 3) := by decide +kernel
theorem dX8_team_49 : decode cX8_team 49 = .ok (.ireturn, 1) := by decide +kernel
theorem dX8_team_50 : decode cX8_team 50 = .ok (.iload_n 3, 1) := by decide +kernel
theorem dX8_team_51 : decode cX8_team 51 = .ok (.iconst 1, 1) := by decide +kernel
theorem dX8_team_52 : decode cX8_team 52 = .ok (.sipush 200, 3) := by decide +kernel
theorem dX8_team_55 : decode cX8_team 55 = .ok (.invokestatic 118, 3) := by decide +kernel
theorem dX8_team_58 : decode cX8_team 58 = .ok (.istore 5, 2) := by decide +kernel
theorem dX8_team_60 : decode cX8_team 60 = .ok (.iload 5, 2) := by decide +kernel
theorem dX8_team_62 : decode cX8_team 62 = .ok (.ifCond .eq 10, 3) := by decide +kernel
theorem dX8_team_65 : decode cX8_team 65 = .ok (.aload_n 0, 1) := by decide +kernel
theorem dX8_team_66 : decode cX8_team 66 = .ok (.iload 5, 2) := by decide +kernel
theorem dX8_team_68 : decode cX8_team 68 = .ok (.invokevirtual 54, 3) := by decide +kernel
theorem dX8_team_71 : decode cX8_team 71 = .ok (.ireturn, 1) := by decide +kernel
theorem dX8_team_72 : decode cX8_team 72 = .ok (.iload 4, 2) := by decide +kernel
theorem dX8_team_74 : decode cX8_team 74 = .ok (.ifCond .ne 16, 3) := by decide +kernel
theorem dX8_team_77 : decode cX8_team 77 = .ok (.aload_n 0, 1) := by decide +kernel
theorem dX8_team_78 : decode cX8_team 78 = .ok (.getfield 10, 3) := by decide +kernel
theorem dX8_team_81 : decode cX8_team 81 = .ok (.iload_n 1, 1) := by decide +kernel
theorem dX8_team_82 : decode cX8_team 82 = .ok (.iload_n 2, 1) := by decide +kernel
theorem dX8_team_83 : decode cX8_team 83 = .ok (.iload_n 3, 1) := by decide +kernel
theorem dX8_team_84 : decode cX8_team 84 = .ok (.invokevirtual 233, 3) := by decide +kernel
theorem dX8_team_87 : decode cX8_team 87 = .ok (.goto 13, 3) := by decide +kernel
theorem dX8_team_90 : decode cX8_team 90 = .ok (.aload_n 0, 1) := by decide +kernel
theorem dX8_team_91 : decode cX8_team 91 = .ok (.getfield 10, 3) := by decide +kernel
theorem dX8_team_94 : decode cX8_team 94 = .ok (.iload_n 1, 1) := by decide +kernel
theorem dX8_team_95 : decode cX8_team 95 = .ok (.iload_n 2, 1) := by decide +kernel
theorem dX8_team_96 : decode cX8_team 96 = .ok (.iload_n 3, 1) := by decide +kernel
theorem dX8_team_97 : decode cX8_team 97 = .ok (.invokevirtual 236, 3) := by decide +kernel
theorem dX8_team_100 : decode cX8_team 100 = .ok (.ireturn, 1) := by decide +kernel
theorem dX8_film_0 : decode cX8_film 0 = .ok (.aload_n 0, 1) := by decide +kernel
theorem dX8_film_1 : decode cX8_film 1 = .ok (.getfield 20, 3) := by decide +kernel
theorem dX8_film_4 : decode cX8_film 4 = .ok (.getfield 130, 3) := by decide +kernel
theorem dX8_film_7 : decode cX8_film 7 = .ok (.iload_n 1, 1) := by decide +kernel
theorem dX8_film_8 : decode cX8_film 8 = .ok (.invokevirtual 134, 3) := by decide +kernel
theorem dX8_film_11 : decode cX8_film 11 = .ok (.ifCond .ne 9, 3) := by decide +kernel
theorem dX8_film_14 : decode cX8_film 14 = .ok (.aload_n 0, 1) := by decide +kernel
theorem dX8_film_15 : decode cX8_film 15 = .ok (.iconst 1, 1) := by decide +kernel
theorem dX8_film_16 : decode cX8_film 16 = .ok (.invokevirtual 54, 3) := by decide +kernel
theorem dX8_film_19 : decode cX8_film 19 = .ok (.ireturn, 1) := by decide +kernel
theorem dX8_film_20 : decode cX8_film 20 = .ok (.aload_n 0, 1) := by decide +kernel
theorem dX8_film_21 : decode cX8_film 21 = .ok (.getfield 36, 3) := by decide +kernel
theorem dX8_film_24 : decode cX8_film 24 = .ok (.invokevirtual 221, 3) := by decide +kernel
theorem dX8_film_27 : decode cX8_film 27 = .ok (.ifCond .eq 12, 3) := by decide +kernel
theorem dX8_film_30 : decode cX8_film 30 = .ok (.aload_n 0, 1) := by decide +kernel
theorem dX8_film_31 : decode cX8_film 31 = .ok (.bipush 6, 2) := by decide +kernel
theorem dX8_film_33 : decode cX8_film 33 = .ok (.invokevirtual 54, 3) := by decide +kernel
theorem dX8_film_36 : decode cX8_film 36 = .ok (.goto 11, 3) := by decide +kernel
theorem dX8_film_39 : decode cX8_film 39 = .ok (.aload_n 0, 1) := by decide +kernel
theorem dX8_film_40 : decode cX8_film 40 = .ok (.getfield 36, 3) := by decide +kernel
theorem dX8_film_43 : decode cX8_film 43 = .ok (.iload_n 1, 1) := by decide +kernel
theorem dX8_film_44 : decode cX8_film 44 = .ok (.invokevirtual 224, 3) := by decide +kernel
theorem dX8_film_47 : decode cX8_film 47 = .ok (.ireturn, 1) := by decide +kernel
theorem dX8_judge_0 : decode cX8_judge 0 = .ok (.aload_n 0, 1) := by decide +kernel
theorem dX8_judge_1 : decode cX8_judge 1 = .ok (.getfield 20, 3) := by decide +kernel
theorem dX8_judge_4 : decode cX8_judge 4 = .ok (.iload_n 1, 1) := by decide +kernel
theorem dX8_judge_5 : decode cX8_judge 5 = .ok (.invokevirtual 165, 3) := by decide +kernel
theorem dX8_judge_8 : decode cX8_judge 8 = .ok (.ifCond .ne 9, 3) := by decide +kernel
theorem dX8_judge_11 : decode cX8_judge 11 = .ok (.aload_n 0, 1) := by decide +kernel
theorem dX8_judge_12 : decode cX8_judge 12 = .ok (.iconst 1, 1) := by decide +kernel
theorem dX8_judge_13 : decode cX8_judge 13 = .ok (.invokevirtual 54, 3) := by decide +kernel
theorem dX8_judge_16 : decode cX8_judge 16 = .ok (.ireturn, 1) := by decide +kernel
theorem dX8_judge_17 : decode cX8_judge 17 = .ok (.aload_n 0, 1) := by decide +kernel
theorem dX8_judge_18 : decode cX8_judge 18 = .ok (.getfield 10, 3) := by decide +kernel
theorem dX8_judge_21 : decode cX8_judge 21 = .ok (.iload_n 1, 1) := by decide +kernel
theorem dX8_judge_22 : decode cX8_judge 22 = .ok (.aload_n 0, 1) := by decide +kernel
theorem dX8_judge_23 : decode cX8_judge 23 = .ok (.getfield 36, 3) := by decide +kernel
theorem dX8_judge_26 : decode cX8_judge 26 = .ok (.invokevirtual 239, 3) := by decide +kernel
theorem dX8_judge_29 : decode cX8_judge 29 = .ok (.istore_n 2, 1) := by decide +kernel
theorem dX8_judge_30 : decode cX8_judge 30 = .ok (.aload_n 0, 1) := by decide +kernel
theorem dX8_judge_31 : decode cX8_judge 31 = .ok (.getfield 36, 3) := by decide +kernel
theorem dX8_judge_34 : decode cX8_judge 34 = .ok (.iconst 0, 1) := by decide +kernel
theorem dX8_judge_35 : decode cX8_judge 35 = .ok (.putfield 229, 3) := by decide +kernel
theorem dX8_judge_38 : decode cX8_judge 38 = .ok (.iload_n 2, 1) := by decide +kernel
theorem dX8_judge_39 : decode cX8_judge 39 = .ok (.ireturn, 1) := by decide +kernel
theorem dX8_image_0 : decode cX8_image 0 = .ok (.aload_n 0, 1) := by decide +kernel
theorem dX8_image_1 : decode cX8_image 1 = .ok (.getfield 24, 3) := by decide +kernel
theorem dX8_image_4 : decode cX8_image 4 = .ok (.aload_n 0, 1) := by decide +kernel
theorem dX8_image_5 : decode cX8_image 5 = .ok (.getfield 20, 3) := by decide +kernel
theorem dX8_image_8 : decode cX8_image 8 = .ok (.invokevirtual 243, 3) := by decide +kernel
theorem dX8_image_11 : decode cX8_image 11 = .ok (.aload_n 0, 1) := by decide +kernel
theorem dX8_image_12 : decode cX8_image 12 = .ok (.iconst 1, 1) := by decide +kernel
theorem dX8_image_13 : decode cX8_image 13 = .ok (.putfield 50, 3) := by decide +kernel
theorem dX8_image_16 : decode cX8_image 16 = .ok (.aload_n 0, 1) := by decide +kernel
theorem dX8_image_17 : decode cX8_image 17 = .ok (.getfield 24, 3) := by decide +kernel
theorem dX8_image_20 : decode cX8_image 20 = .ok (.getfield 246, 3) := by decide +kernel
theorem dX8_image_23 : decode cX8_image 23 = .ok (.ireturn, 1) := by decide +kernel
theorem dX8_restore_0 : decode cX8_restore 0 = .ok (.aload_n 0, 1) := by decide +kernel
theorem dX8_restore_1 : decode cX8_restore 1 = .ok (.getfield 50, 3) := by decide +kernel
theorem dX8_restore_4 : decode cX8_restore 4 = .ok (.ifCond .ne 9, 3) := by decide +kernel
theorem dX8_restore_7 : decode cX8_restore 7 = .ok (.aload_n 0, 1) := by decide +kernel
theorem dX8_restore_8 : decode cX8_restore 8 = .ok (.iconst 3, 1) := by decide +kernel
theorem dX8_restore_9 : decode cX8_restore 9 = .ok (.invokevirtual 54, 3) := by decide +kernel
theorem dX8_restore_12 : decode cX8_restore 12 = .ok (.ireturn, 1) := by decide +kernel
theorem dX8_restore_13 : decode cX8_restore 13 = .ok (.aload_n 0, 1) := by decide +kernel
theorem dX8_restore_14 : decode cX8_restore 14 = .ok (.getfield 20, 3) := by decide +kernel
theorem dX8_restore_17 : decode cX8_restore 17 = .ok (.aload_n 0, 1) := by decide +kernel
theorem dX8_restore_18 : decode cX8_restore 18 = .ok (.getfield 24, 3) := by decide +kernel
theorem dX8_restore_21 : decode cX8_restore 21 = .ok (.invokevirtual 243, 3) := by decide +kernel
theorem dX8_restore_24 : decode cX8_restore 24 = .ok (.aload_n 0, 1) := by decide +kernel
theorem dX8_restore_25 : decode cX8_restore 25 = .ok (.getfield 20, 3) := by decide +kernel
theorem dX8_restore_28 : decode cX8_restore 28 = .ok (.getfield 246, 3) := by decide +kernel
theorem dX8_restore_31 : decode cX8_restore 31 = .ok (.ireturn, 1) := by decide +kernel
theorem dX8_count_0 : decode cX8_count 0 = .ok (.iload_n 1, 1) := by decide +kernel
theorem dX8_count_1 : decode cX8_count 1 = .ok (.bipush 11, 2) := by decide +kernel
theorem dX8_count_3 : decode cX8_count 3 = .ok (.if_icmp .lt 19, 3) := by decide +kernel
theorem dX8_count_6 : decode cX8_count 6 = .ok (.iload_n 1, 1) := by decide +kernel
theorem dX8_count_7 : decode cX8_count 7 = .ok (.bipush 16, 2) := by decide +kernel
theorem dX8_count_9 : decode cX8_count 9 = .ok (.if_icmp .gt 13, 3) := by decide +kernel
theorem dX8_count_12 : decode cX8_count 12 = .ok (.aload_n 0, 1) := by decide +kernel
theorem dX8_count_13 : decode cX8_count 13 = .ok (.getfield 46, 3) := by decide +kernel
theorem dX8_count_16 : decode cX8_count 16 = .ok (.iload_n 1, 1) := by decide +kernel
theorem dX8_count_17 : decode cX8_count 17 = .ok (.bipush 10, 2) := by decide +kernel
theorem dX8_count_19 : decode cX8_count 19 = .ok (.isub, 1) := by decide +kernel
theorem dX8_count_20 : decode cX8_count 20 = .ok (.iaload, 1) := by decide +kernel
theorem dX8_count_21 : decode cX8_count 21 = .ok (.ireturn, 1) := by decide +kernel
theorem dX8_count_22 : decode cX8_count 22 = .ok (.iload_n 1, 1) := by decide +kernel
theorem dX8_count_23 : decode cX8_count 23 = .ok (.tableswitch 127 0 8 #[49, 60, 71, 79, 87, 95, 103, 111, 119], 49) := by decide +kernel
theorem dX8_count_72 : decode cX8_count 72 = .ok (.aload_n 0, 1) := by decide +kernel
theorem dX8_count_73 : decode cX8_count 73 = .ok (.getfield 20, 3) := by decide +kernel
theorem dX8_count_76 : decode cX8_count 76 = .ok (.getfield 130, 3) := by decide +kernel
theorem dX8_count_79 : decode cX8_count 79 = .ok (.getfield 249, 3) := by decide +kernel
theorem dX8_count_82 : decode cX8_count 82 = .ok (.ireturn, 1) := by decide +kernel
theorem dX8_count_83 : decode cX8_count 83 = .ok (.aload_n 0, 1) := by decide +kernel
theorem dX8_count_84 : decode cX8_count 84 = .ok (.getfield 20, 3) := by decide +kernel
theorem dX8_count_87 : decode cX8_count 87 = .ok (.getfield 130, 3) := by decide +kernel
theorem dX8_count_90 : decode cX8_count 90 = .ok (.getfield 252, 3) := by decide +kernel
theorem dX8_count_93 : decode cX8_count 93 = .ok (.ireturn, 1) := by decide +kernel
theorem dX8_count_94 : decode cX8_count 94 = .ok (.aload_n 0, 1) := by decide +kernel
theorem dX8_count_95 : decode cX8_count 95 = .ok (.getfield 20, 3) := by decide +kernel
theorem dX8_count_98 : decode cX8_count 98 = .ok (.getfield 246, 3) := by decide +kernel
theorem dX8_count_101 : decode cX8_count 101 = .ok (.ireturn, 1) := by decide +kernel
theorem dX8_count_102 : decode cX8_count 102 = .ok (.aload_n 0, 1) := by decide +kernel
theorem dX8_count_103 : decode cX8_count 103 = .ok (.getfield 20, 3) := by decide +kernel
theorem dX8_count_106 : decode cX8_count 106 = .ok (.invokevirtual 255, 3) := by decide +kernel
theorem dX8_count_109 : decode cX8_count 109 = .ok (.ireturn, 1) := by decide +kernel
theorem dX8_count_110 : decode cX8_count 110 = .ok (.aload_n 0, 1) := by decide +kernel
theorem dX8_count_111 : decode cX8_count 111 = .ok (.getfield 20, 3) := by decide +kernel
theorem dX8_count_114 : decode cX8_count 114 = .ok (.getfield 258, 3) := by decide +kernel
theorem dX8_count_117 : decode cX8_count 117 = .ok (.ireturn, 1) := by decide +kernel
theorem dX8_count_118 : decode cX8_count 118 = .ok (.aload_n 0, 1) := by decide +kernel
theorem dX8_count_119 : decode cX8_count 119 = .ok (.getfield 20, 3) := by decide +kernel
theorem dX8_count_122 : decode cX8_count 122 = .ok (.getfield 261, 3) := by decide +kernel
theorem dX8_count_125 : decode cX8_count 125 = .ok (.ireturn, 1) := by decide +kernel
theorem dX8_count_126 : decode cX8_count 126 = .ok (.aload_n 0, 1) := by decide +kernel
theorem dX8_count_127 : decode cX8_count 127 = .ok (.getfield 32, 3) := by decide +kernel
theorem dX8_count_130 : decode cX8_count 130 = .ok (.getfield 229, 3) := by decide +kernel
theorem dX8_count_133 : decode cX8_count 133 = .ok (.ireturn, 1) := by decide +kernel
theorem dX8_count_134 : decode cX8_count 134 = .ok (.aload_n 0, 1) := by decide +kernel
theorem dX8_count_135 : decode cX8_count 135 = .ok (.getfield 36, 3) := by decide +kernel
theorem dX8_count_138 : decode cX8_count 138 = .ok (.getfield 229, 3) := by decide +kernel
theorem dX8_count_141 : decode cX8_count 141 = .ok (.ireturn, 1) := by decide +kernel
theorem dX8_count_142 : decode cX8_count 142 = .ok (.aload_n 0, 1) := by decide +kernel
theorem dX8_count_143 : decode cX8_count 143 = .ok (.getfield 42, 3) := by decide +kernel
theorem dX8_count_146 : decode cX8_count 146 = .ok (.getfield 58, 3) := by decide +kernel
theorem dX8_count_149 : decode cX8_count 149 = .ok (.ireturn, 1) := by decide +kernel
theorem dX8_count_150 : decode cX8_count 150 = .ok (.bipush (-9), 2) := by decide +kernel
theorem dX8_count_152 : decode cX8_count 152 = .ok (.ireturn, 1) := by decide +kernel
theorem dX8_refuse_0 : decode cX8_refuse 0 = .ok (.iload_n 1, 1) := by decide +kernel
theorem dX8_refuse_1 : decode cX8_refuse 1 = .ok (.iconst 1, 1) := by decide +kernel
theorem dX8_refuse_2 : decode cX8_refuse 2 = .ok (.if_icmp .lt 19, 3) := by decide +kernel
theorem dX8_refuse_5 : decode cX8_refuse 5 = .ok (.iload_n 1, 1) := by decide +kernel
theorem dX8_refuse_6 : decode cX8_refuse 6 = .ok (.bipush 6, 2) := by decide +kernel
theorem dX8_refuse_8 : decode cX8_refuse 8 = .ok (.if_icmp .gt 13, 3) := by decide +kernel
theorem dX8_refuse_11 : decode cX8_refuse 11 = .ok (.aload_n 0, 1) := by decide +kernel
theorem dX8_refuse_12 : decode cX8_refuse 12 = .ok (.getfield 46, 3) := by decide +kernel
theorem dX8_refuse_15 : decode cX8_refuse 15 = .ok (.iload_n 1, 1) := by decide +kernel
theorem dX8_refuse_16 : decode cX8_refuse 16 = .ok (.dup2, 1) := by decide +kernel
theorem dX8_refuse_17 : decode cX8_refuse 17 = .ok (.iaload, 1) := by decide +kernel
theorem dX8_refuse_18 : decode cX8_refuse 18 = .ok (.iconst 1, 1) := by decide +kernel
theorem dX8_refuse_19 : decode cX8_refuse 19 = .ok (.iadd, 1) := by decide +kernel
theorem dX8_refuse_20 : decode cX8_refuse 20 = .ok (.iastore, 1) := by decide +kernel
theorem dX8_refuse_21 : decode cX8_refuse 21 = .ok (.iload_n 1, 1) := by decide +kernel
theorem dX8_refuse_22 : decode cX8_refuse 22 = .ok (.ineg, 1) := by decide +kernel
theorem dX8_refuse_23 : decode cX8_refuse 23 = .ok (.ireturn, 1) := by decide +kernel
theorem dX8_whyNotSeeds_0 : decode cX8_whyNotSeeds 0 = .ok (.iload_n 1, 1) := by decide +kernel
theorem dX8_whyNotSeeds_1 : decode cX8_whyNotSeeds 1 = .ok (.iconst 1, 1) := by decide +kernel
theorem dX8_whyNotSeeds_2 : decode cX8_whyNotSeeds 2 = .ok (.bipush 20, 2) := by decide +kernel
theorem dX8_whyNotSeeds_4 : decode cX8_whyNotSeeds 4 = .ok (.invokestatic 118, 3) := by decide +kernel
theorem dX8_whyNotSeeds_7 : decode cX8_whyNotSeeds 7 = .ok (.istore_n 2, 1) := by decide +kernel
theorem dX8_whyNotSeeds_8 : decode cX8_whyNotSeeds 8 = .ok (.iload_n 2, 1) := by decide +kernel
theorem dX8_whyNotSeeds_9 : decode cX8_whyNotSeeds 9 = .ok (.ifCond .ne 17, 3) := by decide +kernel
theorem dX8_whyNotSeeds_12 : decode cX8_whyNotSeeds 12 = .ok (.aload_n 0, 1) := by decide +kernel
theorem dX8_whyNotSeeds_13 : decode cX8_whyNotSeeds 13 = .ok (.getfield 20, 3) := by decide +kernel
theorem dX8_whyNotSeeds_16 : decode cX8_whyNotSeeds 16 = .ok (.invokevirtual 151, 3) := by decide +kernel
theorem dX8_whyNotSeeds_19 : decode cX8_whyNotSeeds 19 = .ok (.ifCond .ne 7, 3) := by decide +kernel
theorem dX8_whyNotSeeds_22 : decode cX8_whyNotSeeds 22 = .ok (.iconst 3, 1) := by decide +kernel
theorem dX8_whyNotSeeds_23 : decode cX8_whyNotSeeds 23 = .ok (.goto 4, 3) := by decide +kernel
theorem dX8_whyNotSeeds_26 : decode cX8_whyNotSeeds 26 = .ok (.iload_n 2, 1) := by decide +kernel
theorem dX8_whyNotSeeds_27 : decode cX8_whyNotSeeds 27 = .ok (.ireturn, 1) := by decide +kernel
theorem dX8_couldAllBeBy_0 : decode cX8_couldAllBeBy 0 = .ok (.iconst 1, 1) := by decide +kernel
theorem dX8_couldAllBeBy_1 : decode cX8_couldAllBeBy 1 = .ok (.istore_n 2, 1) := by decide +kernel
theorem dX8_couldAllBeBy_2 : decode cX8_couldAllBeBy 2 = .ok (.iconst 0, 1) := by decide +kernel
theorem dX8_couldAllBeBy_3 : decode cX8_couldAllBeBy 3 = .ok (.istore_n 3, 1) := by decide +kernel
theorem dX8_couldAllBeBy_4 : decode cX8_couldAllBeBy 4 = .ok (.iload_n 3, 1) := by decide +kernel
theorem dX8_couldAllBeBy_5 : decode cX8_couldAllBeBy 5 = .ok (.aload_n 0, 1) := by decide +kernel
theorem dX8_couldAllBeBy_6 : decode cX8_couldAllBeBy 6 = .ok (.getfield 32, 3) := by decide +kernel
theorem dX8_couldAllBeBy_9 : decode cX8_couldAllBeBy 9 = .ok (.getfield 229, 3) := by decide +kernel
theorem dX8_couldAllBeBy_12 : decode cX8_couldAllBeBy 12 = .ok (.if_icmp .ge 41, 3) := by decide +kernel
theorem dX8_couldAllBeBy_15 : decode cX8_couldAllBeBy 15 = .ok (.iload_n 2, 1) := by decide +kernel
theorem dX8_couldAllBeBy_16 : decode cX8_couldAllBeBy 16 = .ok (.ifCond .eq 29, 3) := by decide +kernel
theorem dX8_couldAllBeBy_19 : decode cX8_couldAllBeBy 19 = .ok (.aload_n 0, 1) := by decide +kernel
theorem dX8_couldAllBeBy_20 : decode cX8_couldAllBeBy 20 = .ok (.getfield 20, 3) := by decide +kernel
theorem dX8_couldAllBeBy_23 : decode cX8_couldAllBeBy 23 = .ok (.getfield 103, 3) := by decide +kernel
theorem dX8_couldAllBeBy_26 : decode cX8_couldAllBeBy 26 = .ok (.iload_n 1, 1) := by decide +kernel
theorem dX8_couldAllBeBy_27 : decode cX8_couldAllBeBy 27 = .ok (.aload_n 0, 1) := by decide +kernel
theorem dX8_couldAllBeBy_28 : decode cX8_couldAllBeBy 28 = .ok (.getfield 32, 3) := by decide +kernel
theorem dX8_couldAllBeBy_31 : decode cX8_couldAllBeBy 31 = .ok (.iload_n 3, 1) := by decide +kernel
theorem dX8_couldAllBeBy_32 : decode cX8_couldAllBeBy 32 = .ok (.invokevirtual 264, 3) := by decide +kernel
theorem dX8_couldAllBeBy_35 : decode cX8_couldAllBeBy 35 = .ok (.invokevirtual 267, 3) := by decide +kernel
theorem dX8_couldAllBeBy_38 : decode cX8_couldAllBeBy 38 = .ok (.ifCond .eq 7, 3) := by decide +kernel
theorem dX8_couldAllBeBy_41 : decode cX8_couldAllBeBy 41 = .ok (.iconst 1, 1) := by decide +kernel
theorem dX8_couldAllBeBy_42 : decode cX8_couldAllBeBy 42 = .ok (.goto 4, 3) := by decide +kernel
theorem dX8_couldAllBeBy_45 : decode cX8_couldAllBeBy 45 = .ok (.iconst 0, 1) := by decide +kernel
theorem dX8_couldAllBeBy_46 : decode cX8_couldAllBeBy 46 = .ok (.istore_n 2, 1) := by decide +kernel
theorem dX8_couldAllBeBy_47 : decode cX8_couldAllBeBy 47 = .ok (.iinc 3 1, 3) := by decide +kernel
theorem dX8_couldAllBeBy_50 : decode cX8_couldAllBeBy 50 = .ok (.goto (-46), 3) := by decide +kernel
theorem dX8_couldAllBeBy_53 : decode cX8_couldAllBeBy 53 = .ok (.iload_n 2, 1) := by decide +kernel
theorem dX8_couldAllBeBy_54 : decode cX8_couldAllBeBy 54 = .ok (.ireturn, 1) := by decide +kernel
theorem dX8_whyNotWithin_0 : decode cX8_whyNotWithin 0 = .ok (.iload_n 0, 1) := by decide +kernel
theorem dX8_whyNotWithin_1 : decode cX8_whyNotWithin 1 = .ok (.iload_n 1, 1) := by decide +kernel
theorem dX8_whyNotWithin_2 : decode cX8_whyNotWithin 2 = .ok (.if_icmp .ge 5, 3) := by decide +kernel
theorem dX8_whyNotWithin_5 : decode cX8_whyNotWithin 5 = .ok (.iconst 4, 1) := by decide +kernel
theorem dX8_whyNotWithin_6 : decode cX8_whyNotWithin 6 = .ok (.ireturn, 1) := by decide +kernel
theorem dX8_whyNotWithin_7 : decode cX8_whyNotWithin 7 = .ok (.iload_n 0, 1) := by decide +kernel
theorem dX8_whyNotWithin_8 : decode cX8_whyNotWithin 8 = .ok (.iload_n 2, 1) := by decide +kernel
theorem dX8_whyNotWithin_9 : decode cX8_whyNotWithin 9 = .ok (.if_icmp .le 8, 3) := by decide +kernel
theorem dX8_whyNotWithin_12 : decode cX8_whyNotWithin 12 = .ok (.bipush 6, 2) := by decide +kernel
theorem dX8_whyNotWithin_14 : decode cX8_whyNotWithin 14 = .ok (.goto 4, 3) := by decide +kernel
theorem dX8_whyNotWithin_17 : decode cX8_whyNotWithin 17 = .ok (.iconst 0, 1) := by decide +kernel
theorem dX8_whyNotWithin_18 : decode cX8_whyNotWithin 18 = .ok (.ireturn, 1) := by decide +kernel
theorem dX8_leastOf_0 : decode cX8_leastOf 0 = .ok (.iload_n 0, 1) := by decide +kernel
theorem dX8_leastOf_1 : decode cX8_leastOf 1 = .ok (.iconst 2, 1) := by decide +kernel
theorem dX8_leastOf_2 : decode cX8_leastOf 2 = .ok (.if_icmp .ge 7, 3) := by decide +kernel
theorem dX8_leastOf_5 : decode cX8_leastOf 5 = .ok (.iconst 1, 1) := by decide +kernel
theorem dX8_leastOf_6 : decode cX8_leastOf 6 = .ok (.goto 4, 3) := by decide +kernel
theorem dX8_leastOf_9 : decode cX8_leastOf 9 = .ok (.iconst 0, 1) := by decide +kernel
theorem dX8_leastOf_10 : decode cX8_leastOf 10 = .ok (.ireturn, 1) := by decide +kernel
theorem dX8_greatestOf_0 : decode cX8_greatestOf 0 = .ok (.iload_n 0, 1) := by decide +kernel
theorem dX8_greatestOf_1 : decode cX8_greatestOf 1 = .ok (.iconst 2, 1) := by decide +kernel
theorem dX8_greatestOf_2 : decode cX8_greatestOf 2 = .ok (.if_icmp .ge 6, 3) := by decide +kernel
theorem dX8_greatestOf_5 : decode cX8_greatestOf 5 = .ok (.bipush 99, 2) := by decide +kernel
theorem dX8_greatestOf_7 : decode cX8_greatestOf 7 = .ok (.ireturn, 1) := by decide +kernel
theorem dX8_greatestOf_8 : decode cX8_greatestOf 8 = .ok (.iload_n 0, 1) := by decide +kernel
theorem dX8_greatestOf_9 : decode cX8_greatestOf 9 = .ok (.iconst 5, 1) := by decide +kernel
theorem dX8_greatestOf_10 : decode cX8_greatestOf 10 = .ok (.if_icmp .ne 8, 3) := by decide +kernel
theorem dX8_greatestOf_13 : decode cX8_greatestOf 13 = .ok (.bipush 6, 2) := by decide +kernel
theorem dX8_greatestOf_15 : decode cX8_greatestOf 15 = .ok (.goto 5, 3) := by decide +kernel
theorem dX8_greatestOf_18 : decode cX8_greatestOf 18 = .ok (.bipush 9, 2) := by decide +kernel
theorem dX8_greatestOf_20 : decode cX8_greatestOf 20 = .ok (.ireturn, 1) := by decide +kernel
theorem dX9_init_0 : decode cX9_init 0 = .ok (.aload_n 0, 1) := by decide +kernel
theorem dX9_init_1 : decode cX9_init 1 = .ok (.invokespecial 1, 3) := by decide +kernel
theorem dX9_init_4 : decode cX9_init 4 = .ok (.aload_n 0, 1) := by decide +kernel
theorem dX9_init_5 : decode cX9_init 5 = .ok (.bipush 7, 2) := by decide +kernel
theorem dX9_init_7 : decode cX9_init 7 = .ok (.newarray .int, 2) := by decide +kernel
theorem dX9_init_9 : decode cX9_init 9 = .ok (.putfield 7, 3) := by decide +kernel
theorem dX9_init_12 : decode cX9_init 12 = .ok (.aload_n 0, 1) := by decide +kernel
theorem dX9_init_13 : decode cX9_init 13 = .ok (.bipush 60, 2) := by decide +kernel
theorem dX9_init_15 : decode cX9_init 15 = .ok (.newarray .int, 2) := by decide +kernel
theorem dX9_init_17 : decode cX9_init 17 = .ok (.putfield 13, 3) := by decide +kernel
theorem dX9_init_20 : decode cX9_init 20 = .ok (.aload_n 0, 1) := by decide +kernel
theorem dX9_init_21 : decode cX9_init 21 = .ok (.bipush 12, 2) := by decide +kernel
theorem dX9_init_23 : decode cX9_init 23 = .ok (.newarray .int, 2) := by decide +kernel
theorem dX9_init_25 : decode cX9_init 25 = .ok (.putfield 16, 3) := by decide +kernel
theorem dX9_init_28 : decode cX9_init 28 = .ok (.aload_n 0, 1) := by decide +kernel
theorem dX9_init_29 : decode cX9_init 29 = .ok (.bipush 12, 2) := by decide +kernel
theorem dX9_init_31 : decode cX9_init 31 = .ok (.newarray .int, 2) := by decide +kernel
theorem dX9_init_33 : decode cX9_init 33 = .ok (.putfield 19, 3) := by decide +kernel
theorem dX9_init_36 : decode cX9_init 36 = .ok (.aload_n 0, 1) := by decide +kernel
theorem dX9_init_37 : decode cX9_init 37 = .ok (.bipush 12, 2) := by decide +kernel
theorem dX9_init_39 : decode cX9_init 39 = .ok (.newarray .int, 2) := by decide +kernel
theorem dX9_init_41 : decode cX9_init 41 = .ok (.putfield 22, 3) := by decide +kernel
theorem dX9_init_44 : decode cX9_init 44 = .ok (.aload_n 0, 1) := by decide +kernel
theorem dX9_init_45 : decode cX9_init 45 = .ok (.bipush 12, 2) := by decide +kernel
theorem dX9_init_47 : decode cX9_init 47 = .ok (.newarray .int, 2) := by decide +kernel
theorem dX9_init_49 : decode cX9_init 49 = .ok (.putfield 25, 3) := by decide +kernel
theorem dX9_init_52 : decode cX9_init 52 = .ok (.aload_n 0, 1) := by decide +kernel
theorem dX9_init_53 : decode cX9_init 53 = .ok (.bipush 12, 2) := by decide +kernel
theorem dX9_init_55 : decode cX9_init 55 = .ok (.newarray .int, 2) := by decide +kernel
theorem dX9_init_57 : decode cX9_init 57 = .ok (.putfield 28, 3) := by decide +kernel
theorem dX9_init_60 : decode cX9_init 60 = .ok (.aload_n 0, 1) := by decide +kernel
theorem dX9_init_61 : decode cX9_init 61 = .ok (.bipush 12, 2) := by decide +kernel
theorem dX9_init_63 : decode cX9_init 63 = .ok (.newarray .int, 2) := by decide +kernel
theorem dX9_init_65 : decode cX9_init 65 = .ok (.putfield 31, 3) := by decide +kernel
theorem dX9_init_68 : decode cX9_init 68 = .ok (.aload_n 0, 1) := by decide +kernel
theorem dX9_init_69 : decode cX9_init 69 = .ok (.bipush 12, 2) := by decide +kernel
theorem dX9_init_71 : decode cX9_init 71 = .ok (.newarray .int, 2) := by decide +kernel
theorem dX9_init_73 : decode cX9_init 73 = .ok (.putfield 34, 3) := by decide +kernel
theorem dX9_init_76 : decode cX9_init 76 = .ok (.aload_n 0, 1) := by decide +kernel
theorem dX9_init_77 : decode cX9_init 77 = .ok (.bipush 12, 2) := by decide +kernel
theorem dX9_init_79 : decode cX9_init 79 = .ok (.newarray .int, 2) := by decide +kernel
theorem dX9_init_81 : decode cX9_init 81 = .ok (.putfield 37, 3) := by decide +kernel
theorem dX9_init_84 : decode cX9_init 84 = .ok (.aload_n 0, 1) := by decide +kernel
theorem dX9_init_85 : decode cX9_init 85 = .ok (.bipush 12, 2) := by decide +kernel
theorem dX9_init_87 : decode cX9_init 87 = .ok (.newarray .int, 2) := by decide +kernel
theorem dX9_init_89 : decode cX9_init 89 = .ok (.putfield 40, 3) := by decide +kernel
theorem dX9_init_92 : decode cX9_init 92 = .ok (.aload_n 0, 1) := by decide +kernel
theorem dX9_init_93 : decode cX9_init 93 = .ok (.bipush 24, 2) := by decide +kernel
theorem dX9_init_95 : decode cX9_init 95 = .ok (.putfield 43, 3) := by decide +kernel
theorem dX9_init_98 : decode cX9_init 98 = .ok (.aload_n 0, 1) := by decide +kernel
theorem dX9_init_99 : decode cX9_init 99 = .ok (.bipush 10, 2) := by decide +kernel
theorem dX9_init_101 : decode cX9_init 101 = .ok (.putfield 47, 3) := by decide +kernel
theorem dX9_init_104 : decode cX9_init 104 = .ok (.aload_n 0, 1) := by decide +kernel
theorem dX9_init_105 : decode cX9_init 105 = .ok (.iconst 1, 1) := by decide +kernel
theorem dX9_init_106 : decode cX9_init 106 = .ok (.putfield 50, 3) := by decide +kernel
theorem dX9_init_109 : decode cX9_init 109 = .ok (.aload_n 0, 1) := by decide +kernel
theorem dX9_init_110 : decode cX9_init 110 = .ok (.bipush 64, 2) := by decide +kernel
theorem dX9_init_112 : decode cX9_init 112 = .ok (.newarray .int, 2) := by decide +kernel
theorem dX9_init_114 : decode cX9_init 114 = .ok (.putfield 53, 3) := by decide +kernel
theorem dX9_init_117 : decode cX9_init 117 = .ok (.aload_n 0, 1) := by decide +kernel
theorem dX9_init_118 : decode cX9_init 118 = .ok (.bipush 32, 2) := by decide +kernel
theorem dX9_init_120 : decode cX9_init 120 = .ok (.newarray .int, 2) := by decide +kernel
theorem dX9_init_122 : decode cX9_init 122 = .ok (.putfield 56, 3) := by decide +kernel
theorem dX9_init_125 : decode cX9_init 125 = .ok (.aload_n 0, 1) := by decide +kernel
theorem dX9_init_126 : decode cX9_init 126 = .ok (.bipush 32, 2) := by decide +kernel
theorem dX9_init_128 : decode cX9_init 128 = .ok (.newarray .int, 2) := by decide +kernel
theorem dX9_init_130 : decode cX9_init 130 = .ok (.putfield 59, 3) := by decide +kernel
theorem dX9_init_133 : decode cX9_init 133 = .ok (.aload_n 0, 1) := by decide +kernel
theorem dX9_init_134 : decode cX9_init 134 = .ok (.bipush 32, 2) := by decide +kernel
theorem dX9_init_136 : decode cX9_init 136 = .ok (.newarray .int, 2) := by decide +kernel
theorem dX9_init_138 : decode cX9_init 138 = .ok (.putfield 62, 3) := by decide +kernel
theorem dX9_init_141 : decode cX9_init 141 = .ok (.aload_n 0, 1) := by decide +kernel
theorem dX9_init_142 : decode cX9_init 142 = .ok (.bipush 32, 2) := by decide +kernel
theorem dX9_init_144 : decode cX9_init 144 = .ok (.newarray .int, 2) := by decide +kernel
theorem dX9_init_146 : decode cX9_init 146 = .ok (.putfield 65, 3) := by decide +kernel
theorem dX9_init_149 : decode cX9_init 149 = .ok (.aload_n 0, 1) := by decide +kernel
theorem dX9_init_150 : decode cX9_init 150 = .ok (.bipush 32, 2) := by decide +kernel
theorem dX9_init_152 : decode cX9_init 152 = .ok (.newarray .int, 2) := by decide +kernel
theorem dX9_init_154 : decode cX9_init 154 = .ok (.putfield 68, 3) := by decide +kernel
theorem dX9_init_157 : decode cX9_init 157 = .ok (.aload_n 0, 1) := by decide +kernel
theorem dX9_init_158 : decode cX9_init 158 = .ok (.sipush 400, 3) := by decide +kernel
theorem dX9_init_161 : decode cX9_init 161 = .ok (.newarray .int, 2) := by decide +kernel
theorem dX9_init_163 : decode cX9_init 163 = .ok (.putfield 71, 3) := by decide +kernel
theorem dX9_init_166 : decode cX9_init 166 = .ok (.aload_n 0, 1) := by decide +kernel
theorem dX9_init_167 : decode cX9_init 167 = .ok (.bipush 12, 2) := by decide +kernel
theorem dX9_init_169 : decode cX9_init 169 = .ok (.newarray .int, 2) := by decide +kernel
theorem dX9_init_171 : decode cX9_init 171 = .ok (.putfield 74, 3) := by decide +kernel
theorem dX9_init_174 : decode cX9_init 174 = .ok (.aload_n 0, 1) := by decide +kernel
theorem dX9_init_175 : decode cX9_init 175 = .ok (.bipush 12, 2) := by decide +kernel
theorem dX9_init_177 : decode cX9_init 177 = .ok (.newarray .int, 2) := by decide +kernel
theorem dX9_init_179 : decode cX9_init 179 = .ok (.putfield 77, 3) := by decide +kernel
theorem dX9_init_182 : decode cX9_init 182 = .ok (.aload_n 0, 1) := by decide +kernel
theorem dX9_init_183 : decode cX9_init 183 = .ok (.bipush 16, 2) := by decide +kernel
theorem dX9_init_185 : decode cX9_init 185 = .ok (.newarray .int, 2) := by decide +kernel
theorem dX9_init_187 : decode cX9_init 187 = .ok (.putfield 80, 3) := by decide +kernel
theorem dX9_init_190 : decode cX9_init 190 = .ok (.aload_n 0, 1) := by decide +kernel
theorem dX9_init_191 : decode cX9_init 191 = .ok (.bipush 60, 2) := by decide +kernel
theorem dX9_init_193 : decode cX9_init 193 = .ok (.newarray .int, 2) := by decide +kernel
theorem dX9_init_195 : decode cX9_init 195 = .ok (.putfield 83, 3) := by decide +kernel
theorem dX9_init_198 : decode cX9_init 198 = .ok (.return_, 1) := by decide +kernel
theorem dX9_no_0 : decode cX9_no 0 = .ok (.aload_n 0, 1) := by decide +kernel
theorem dX9_no_1 : decode cX9_no 1 = .ok (.getfield 7, 3) := by decide +kernel
theorem dX9_no_4 : decode cX9_no 4 = .ok (.iload_n 1, 1) := by decide +kernel
theorem dX9_no_5 : decode cX9_no 5 = .ok (.ineg, 1) := by decide +kernel
theorem dX9_no_6 : decode cX9_no 6 = .ok (.dup2, 1) := by decide +kernel
theorem dX9_no_7 : decode cX9_no 7 = .ok (.iaload, 1) := by decide +kernel
theorem dX9_no_8 : decode cX9_no 8 = .ok (.iconst 1, 1) := by decide +kernel
theorem dX9_no_9 : decode cX9_no 9 = .ok (.iadd, 1) := by decide +kernel
theorem dX9_no_10 : decode cX9_no 10 = .ok (.iastore, 1) := by decide +kernel
theorem dX9_no_11 : decode cX9_no 11 = .ok (.iload_n 1, 1) := by decide +kernel
theorem dX9_no_12 : decode cX9_no 12 = .ok (.ireturn, 1) := by decide +kernel
theorem dX9_isIn_0 : decode cX9_isIn 0 = .ok (.iload_n 0, 1) := by decide +kernel
theorem dX9_isIn_1 : decode cX9_isIn 1 = .ok (.iload_n 1, 1) := by decide +kernel
theorem dX9_isIn_2 : decode cX9_isIn 2 = .ok (.if_icmp .lt 12, 3) := by decide +kernel
theorem dX9_isIn_5 : decode cX9_isIn 5 = .ok (.iload_n 0, 1) := by decide +kernel
theorem dX9_isIn_6 : decode cX9_isIn 6 = .ok (.iload_n 2, 1) := by decide +kernel
theorem dX9_isIn_7 : decode cX9_isIn 7 = .ok (.if_icmp .gt 7, 3) := by decide +kernel
theorem dX9_isIn_10 : decode cX9_isIn 10 = .ok (.iconst 1, 1) := by decide +kernel
theorem dX9_isIn_11 : decode cX9_isIn 11 = .ok (.goto 4, 3) := by decide +kernel
theorem dX9_isIn_14 : decode cX9_isIn 14 = .ok (.iconst 0, 1) := by decide +kernel
theorem dX9_isIn_15 : decode cX9_isIn 15 = .ok (.ireturn, 1) := by decide +kernel
theorem dX9_bound_0 : decode cX9_bound 0 = .ok (.iload_n 0, 1) := by decide +kernel
theorem dX9_bound_1 : decode cX9_bound 1 = .ok (.iload_n 1, 1) := by decide +kernel
theorem dX9_bound_2 : decode cX9_bound 2 = .ok (.if_icmp .ge 8, 3) := by decide +kernel
theorem dX9_bound_5 : decode cX9_bound 5 = .ok (.bipush (-4), 2) := by decide +kernel
theorem dX9_bound_7 : decode cX9_bound 7 = .ok (.goto 14, 3) := by decide +kernel
theorem dX9_bound_10 : decode cX9_bound 10 = .ok (.iload_n 0, 1) := by decide +kernel
theorem dX9_bound_11 : decode cX9_bound 11 = .ok (.iload_n 2, 1) := by decide +kernel
theorem dX9_bound_12 : decode cX9_bound 12 = .ok (.if_icmp .le 8, 3) := by decide +kernel
theorem dX9_bound_15 : decode cX9_bound 15 = .ok (.bipush (-6), 2) := by decide +kernel
theorem dX9_bound_17 : decode cX9_bound 17 = .ok (.goto 4, 3) := by decide +kernel
theorem dX9_bound_20 : decode cX9_bound 20 = .ok (.iconst 0, 1) := by decide +kernel
theorem dX9_bound_21 : decode cX9_bound 21 = .ok (.ireturn, 1) := by decide +kernel
theorem dX9_isPlace_0 : decode cX9_isPlace 0 = .ok (.iload_n 1, 1) := by decide +kernel
theorem dX9_isPlace_1 : decode cX9_isPlace 1 = .ok (.ifCond .lt 15, 3) := by decide +kernel
theorem dX9_isPlace_4 : decode cX9_isPlace 4 = .ok (.iload_n 1, 1) := by decide +kernel
theorem dX9_isPlace_5 : decode cX9_isPlace 5 = .ok (.aload_n 0, 1) := by decide +kernel
theorem dX9_isPlace_6 : decode cX9_isPlace 6 = .ok (.getfield 43, 3) := by decide +kernel
theorem dX9_isPlace_9 : decode cX9_isPlace 9 = .ok (.if_icmp .ge 7, 3) := by decide +kernel
theorem dX9_isPlace_12 : decode cX9_isPlace 12 = .ok (.iconst 1, 1) := by decide +kernel
theorem dX9_isPlace_13 : decode cX9_isPlace 13 = .ok (.goto 4, 3) := by decide +kernel
theorem dX9_isPlace_16 : decode cX9_isPlace 16 = .ok (.iconst 0, 1) := by decide +kernel
theorem dX9_isPlace_17 : decode cX9_isPlace 17 = .ok (.ireturn, 1) := by decide +kernel
theorem dX9_isWalker_0 : decode cX9_isWalker 0 = .ok (.iload_n 1, 1) := by decide +kernel
theorem dX9_isWalker_1 : decode cX9_isWalker 1 = .ok (.ifCond .lt 15, 3) := by decide +kernel
theorem dX9_isWalker_4 : decode cX9_isWalker 4 = .ok (.iload_n 1, 1) := by decide +kernel
theorem dX9_isWalker_5 : decode cX9_isWalker 5 = .ok (.aload_n 0, 1) := by decide +kernel
theorem dX9_isWalker_6 : decode cX9_isWalker 6 = .ok (.getfield 86, 3) := by decide +kernel
theorem dX9_isWalker_9 : decode cX9_isWalker 9 = .ok (.if_icmp .ge 7, 3) := by decide +kernel
theorem dX9_isWalker_12 : decode cX9_isWalker 12 = .ok (.iconst 1, 1) := by decide +kernel
theorem dX9_isWalker_13 : decode cX9_isWalker 13 = .ok (.goto 4, 3) := by decide +kernel
theorem dX9_isWalker_16 : decode cX9_isWalker 16 = .ok (.iconst 0, 1) := by decide +kernel
theorem dX9_isWalker_17 : decode cX9_isWalker 17 = .ok (.ireturn, 1) := by decide +kernel
theorem dX9_chairs_0 : decode cX9_chairs 0 = .ok (.iconst 0, 1) := by decide +kernel
theorem dX9_chairs_1 : decode cX9_chairs 1 = .ok (.istore_n 1, 1) := by decide +kernel
theorem dX9_chairs_2 : decode cX9_chairs 2 = .ok (.iconst 0, 1) := by decide +kernel
theorem dX9_chairs_3 : decode cX9_chairs 3 = .ok (.istore_n 2, 1) := by decide +kernel
theorem dX9_chairs_4 : decode cX9_chairs 4 = .ok (.iload_n 2, 1) := by decide +kernel
theorem dX9_chairs_5 : decode cX9_chairs 5 = .ok (.aload_n 0, 1) := by decide +kernel
theorem dX9_chairs_6 : decode cX9_chairs 6 = .ok (.getfield 43, 3) := by decide +kernel
theorem dX9_chairs_9 : decode cX9_chairs 9 = .ok (.if_icmp .ge 18, 3) := by decide +kernel
theorem dX9_chairs_12 : decode cX9_chairs 12 = .ok (.iload_n 1, 1) := by decide +kernel
theorem dX9_chairs_13 : decode cX9_chairs 13 = .ok (.aload_n 0, 1) := by decide +kernel
theorem dX9_chairs_14 : decode cX9_chairs 14 = .ok (.getfield 13, 3) := by decide +kernel
theorem dX9_chairs_17 : decode cX9_chairs 17 = .ok (.iload_n 2, 1) := by decide +kernel
theorem dX9_chairs_18 : decode cX9_chairs 18 = .ok (.iaload, 1) := by decide +kernel
theorem dX9_chairs_19 : decode cX9_chairs 19 = .ok (.iadd, 1) := by decide +kernel
theorem dX9_chairs_20 : decode cX9_chairs 20 = .ok (.istore_n 1, 1) := by decide +kernel
theorem dX9_chairs_21 : decode cX9_chairs 21 = .ok (.iinc 2 1, 3) := by decide +kernel
theorem dX9_chairs_24 : decode cX9_chairs 24 = .ok (.goto (-20), 3) := by decide +kernel
theorem dX9_chairs_27 : decode cX9_chairs 27 = .ok (.iload_n 1, 1) := by decide +kernel
theorem dX9_chairs_28 : decode cX9_chairs 28 = .ok (.ireturn, 1) := by decide +kernel
theorem dX9_far_0 : decode cX9_far 0 = .ok (.iload_n 1, 1) := by decide +kernel
theorem dX9_far_1 : decode cX9_far 1 = .ok (.iload_n 2, 1) := by decide +kernel
theorem dX9_far_2 : decode cX9_far 2 = .ok (.if_icmp .le 9, 3) := by decide +kernel
theorem dX9_far_5 : decode cX9_far 5 = .ok (.iload_n 1, 1) := by decide +kernel
theorem dX9_far_6 : decode cX9_far 6 = .ok (.iload_n 2, 1) := by decide +kernel
theorem dX9_far_7 : decode cX9_far 7 = .ok (.isub, 1) := by decide +kernel
theorem dX9_far_8 : decode cX9_far 8 = .ok (.goto 6, 3) := by decide +kernel
theorem dX9_far_11 : decode cX9_far 11 = .ok (.iload_n 2, 1) := by decide +kernel
theorem dX9_far_12 : decode cX9_far 12 = .ok (.iload_n 1, 1) := by decide +kernel
theorem dX9_far_13 : decode cX9_far 13 = .ok (.isub, 1) := by decide +kernel
theorem dX9_far_14 : decode cX9_far 14 = .ok (.istore_n 3, 1) := by decide +kernel
theorem dX9_far_15 : decode cX9_far 15 = .ok (.iload_n 3, 1) := by decide +kernel
theorem dX9_far_16 : decode cX9_far 16 = .ok (.aload_n 0, 1) := by decide +kernel
theorem dX9_far_17 : decode cX9_far 17 = .ok (.getfield 43, 3) := by decide +kernel
theorem dX9_far_20 : decode cX9_far 20 = .ok (.iload_n 3, 1) := by decide +kernel
theorem dX9_far_21 : decode cX9_far 21 = .ok (.isub, 1) := by decide +kernel
theorem dX9_far_22 : decode cX9_far 22 = .ok (.if_icmp .le 12, 3) := by decide +kernel
theorem dX9_far_25 : decode cX9_far 25 = .ok (.aload_n 0, 1) := by decide +kernel
theorem dX9_far_26 : decode cX9_far 26 = .ok (.getfield 43, 3) := by decide +kernel
theorem dX9_far_29 : decode cX9_far 29 = .ok (.iload_n 3, 1) := by decide +kernel
theorem dX9_far_30 : decode cX9_far 30 = .ok (.isub, 1) := by decide +kernel
theorem dX9_far_31 : decode cX9_far 31 = .ok (.goto 4, 3) := by decide +kernel
theorem dX9_far_34 : decode cX9_far 34 = .ok (.iload_n 3, 1) := by decide +kernel
theorem dX9_far_35 : decode cX9_far 35 = .ok (.ireturn, 1) := by decide +kernel
theorem dX9_isTaken_0 : decode cX9_isTaken 0 = .ok (.iconst 0, 1) := by decide +kernel
theorem dX9_isTaken_1 : decode cX9_isTaken 1 = .ok (.istore_n 2, 1) := by decide +kernel
theorem dX9_isTaken_2 : decode cX9_isTaken 2 = .ok (.iload_n 2, 1) := by decide +kernel
theorem dX9_isTaken_3 : decode cX9_isTaken 3 = .ok (.aload_n 0, 1) := by decide +kernel
theorem dX9_isTaken_4 : decode cX9_isTaken 4 = .ok (.getfield 86, 3) := by decide +kernel
theorem dX9_isTaken_7 : decode cX9_isTaken 7 = .ok (.if_icmp .ge 31, 3) := by decide +kernel
theorem dX9_isTaken_10 : decode cX9_isTaken 10 = .ok (.aload_n 0, 1) := by decide +kernel
theorem dX9_isTaken_11 : decode cX9_isTaken 11 = .ok (.getfield 22, 3) := by decide +kernel
theorem dX9_isTaken_14 : decode cX9_isTaken 14 = .ok (.iload_n 2, 1) := by decide +kernel
theorem dX9_isTaken_15 : decode cX9_isTaken 15 = .ok (.iaload, 1) := by decide +kernel
theorem dX9_isTaken_16 : decode cX9_isTaken 16 = .ok (.iconst 1, 1) := by decide +kernel
theorem dX9_isTaken_17 : decode cX9_isTaken 17 = .ok (.if_icmp .ne 15, 3) := by decide +kernel
theorem dX9_isTaken_20 : decode cX9_isTaken 20 = .ok (.aload_n 0, 1) := by decide +kernel
theorem dX9_isTaken_21 : decode cX9_isTaken 21 = .ok (.getfield 16, 3) := by decide +kernel
theorem dX9_isTaken_24 : decode cX9_isTaken 24 = .ok (.iload_n 2, 1) := by decide +kernel
theorem dX9_isTaken_25 : decode cX9_isTaken 25 = .ok (.iaload, 1) := by decide +kernel
theorem dX9_isTaken_26 : decode cX9_isTaken 26 = .ok (.iload_n 1, 1) := by decide +kernel
theorem dX9_isTaken_27 : decode cX9_isTaken 27 = .ok (.if_icmp .ne 5, 3) := by decide +kernel
theorem dX9_isTaken_30 : decode cX9_isTaken 30 = .ok (.iconst 1, 1) := by decide +kernel
theorem dX9_isTaken_31 : decode cX9_isTaken 31 = .ok (.ireturn, 1) := by decide +kernel
theorem dX9_isTaken_32 : decode cX9_isTaken 32 = .ok (.iinc 2 1, 3) := by decide +kernel
theorem dX9_isTaken_35 : decode cX9_isTaken 35 = .ok (.goto (-33), 3) := by decide +kernel
theorem dX9_isTaken_38 : decode cX9_isTaken 38 = .ok (.iconst 0, 1) := by decide +kernel
theorem dX9_isTaken_39 : decode cX9_isTaken 39 = .ok (.ireturn, 1) := by decide +kernel
theorem dX9_ins_0 : decode cX9_ins 0 = .ok (.iconst 0, 1) := by decide +kernel
theorem dX9_ins_1 : decode cX9_ins 1 = .ok (.istore_n 1, 1) := by decide +kernel
theorem dX9_ins_2 : decode cX9_ins 2 = .ok (.iconst 0, 1) := by decide +kernel
theorem dX9_ins_3 : decode cX9_ins 3 = .ok (.istore_n 2, 1) := by decide +kernel
theorem dX9_ins_4 : decode cX9_ins 4 = .ok (.iload_n 2, 1) := by decide +kernel
theorem dX9_ins_5 : decode cX9_ins 5 = .ok (.aload_n 0, 1) := by decide +kernel
theorem dX9_ins_6 : decode cX9_ins 6 = .ok (.getfield 86, 3) := by decide +kernel
theorem dX9_ins_9 : decode cX9_ins 9 = .ok (.if_icmp .ge 18, 3) := by decide +kernel
theorem dX9_ins_12 : decode cX9_ins 12 = .ok (.iload_n 1, 1) := by decide +kernel
theorem dX9_ins_13 : decode cX9_ins 13 = .ok (.aload_n 0, 1) := by decide +kernel
theorem dX9_ins_14 : decode cX9_ins 14 = .ok (.getfield 22, 3) := by decide +kernel
theorem dX9_ins_17 : decode cX9_ins 17 = .ok (.iload_n 2, 1) := by decide +kernel
theorem dX9_ins_18 : decode cX9_ins 18 = .ok (.iaload, 1) := by decide +kernel
theorem dX9_ins_19 : decode cX9_ins 19 = .ok (.iadd, 1) := by decide +kernel
theorem dX9_ins_20 : decode cX9_ins 20 = .ok (.istore_n 1, 1) := by decide +kernel
theorem dX9_ins_21 : decode cX9_ins 21 = .ok (.iinc 2 1, 3) := by decide +kernel
theorem dX9_ins_24 : decode cX9_ins 24 = .ok (.goto (-20), 3) := by decide +kernel
theorem dX9_ins_27 : decode cX9_ins 27 = .ok (.iload_n 1, 1) := by decide +kernel
theorem dX9_ins_28 : decode cX9_ins 28 = .ok (.ireturn, 1) := by decide +kernel
theorem dX9_comesChair_0 : decode cX9_comesChair 0 = .ok (.aload_n 0, 1) := by decide +kernel
theorem dX9_comesChair_1 : decode cX9_comesChair 1 = .ok (.getfield 13, 3) := by decide +kernel
theorem dX9_comesChair_4 : decode cX9_comesChair 4 = .ok (.iload_n 1, 1) := by decide +kernel
theorem dX9_comesChair_5 : decode cX9_comesChair 5 = .ok (.iconst 1, 1) := by decide +kernel
theorem dX9_comesChair_6 : decode cX9_comesChair 6 = .ok (.iastore, 1) := by decide +kernel
theorem dX9_comesChair_7 : decode cX9_comesChair 7 = .ok (.aload_n 0, 1) := by decide +kernel
theorem dX9_comesChair_8 : decode cX9_comesChair 8 = .ok (.iconst 0, 1) := by decide +kernel
theorem dX9_comesChair_9 : decode cX9_comesChair 9 = .ok (.putfield 89, 3) := by decide +kernel
theorem dX9_comesChair_12 : decode cX9_comesChair 12 = .ok (.return_, 1) := by decide +kernel
theorem dX9_comesWalker_0 : decode cX9_comesWalker 0 = .ok (.aload_n 0, 1) := by decide +kernel
theorem dX9_comesWalker_1 : decode cX9_comesWalker 1 = .ok (.getfield 16, 3) := by decide +kernel
theorem dX9_comesWalker_4 : decode cX9_comesWalker 4 = .ok (.aload_n 0, 1) := by decide +kernel
theorem dX9_comesWalker_5 : decode cX9_comesWalker 5 = .ok (.getfield 86, 3) := by decide +kernel
theorem dX9_comesWalker_8 : decode cX9_comesWalker 8 = .ok (.iload_n 1, 1) := by decide +kernel
theorem dX9_comesWalker_9 : decode cX9_comesWalker 9 = .ok (.iastore, 1) := by decide +kernel
theorem dX9_comesWalker_10 : decode cX9_comesWalker 10 = .ok (.aload_n 0, 1) := by decide +kernel
theorem dX9_comesWalker_11 : decode cX9_comesWalker 11 = .ok (.getfield 19, 3) := by decide +kernel
theorem dX9_comesWalker_14 : decode cX9_comesWalker 14 = .ok (.aload_n 0, 1) := by decide +kernel
theorem dX9_comesWalker_15 : decode cX9_comesWalker 15 = .ok (.getfield 86, 3) := by decide +kernel
theorem dX9_comesWalker_18 : decode cX9_comesWalker 18 = .ok (.iconst 0, 1) := by decide +kernel
theorem dX9_comesWalker_19 : decode cX9_comesWalker 19 = .ok (.iastore, 1) := by decide +kernel
theorem dX9_comesWalker_20 : decode cX9_comesWalker 20 = .ok (.aload_n 0, 1) := by decide +kernel
theorem dX9_comesWalker_21 : decode cX9_comesWalker 21 = .ok (.getfield 22, 3) := by decide +kernel
theorem dX9_comesWalker_24 : decode cX9_comesWalker 24 = .ok (.aload_n 0, 1) := by decide +kernel
theorem dX9_comesWalker_25 : decode cX9_comesWalker 25 = .ok (.getfield 86, 3) := by decide +kernel
theorem dX9_comesWalker_28 : decode cX9_comesWalker 28 = .ok (.iconst 1, 1) := by decide +kernel
theorem dX9_comesWalker_29 : decode cX9_comesWalker 29 = .ok (.iastore, 1) := by decide +kernel
theorem dX9_comesWalker_30 : decode cX9_comesWalker 30 = .ok (.aload_n 0, 1) := by decide +kernel
theorem dX9_comesWalker_31 : decode cX9_comesWalker 31 = .ok (.getfield 25, 3) := by decide +kernel
theorem dX9_comesWalker_34 : decode cX9_comesWalker 34 = .ok (.aload_n 0, 1) := by decide +kernel
theorem dX9_comesWalker_35 : decode cX9_comesWalker 35 = .ok (.getfield 86, 3) := by decide +kernel
theorem dX9_comesWalker_38 : decode cX9_comesWalker 38 = .ok (.iload_n 2, 1) := by decide +kernel
theorem dX9_comesWalker_39 : decode cX9_comesWalker 39 = .ok (.iastore, 1) := by decide +kernel
theorem dX9_comesWalker_40 : decode cX9_comesWalker 40 = .ok (.aload_n 0, 1) := by decide +kernel
theorem dX9_comesWalker_41 : decode cX9_comesWalker 41 = .ok (.getfield 28, 3) := by decide +kernel
theorem dX9_comesWalker_44 : decode cX9_comesWalker 44 = .ok (.aload_n 0, 1) := by decide +kernel
theorem dX9_comesWalker_45 : decode cX9_comesWalker 45 = .ok (.getfield 86, 3) := by decide +kernel
theorem dX9_comesWalker_48 : decode cX9_comesWalker 48 = .ok (.iload_n 3, 1) := by decide +kernel
theorem dX9_comesWalker_49 : decode cX9_comesWalker 49 = .ok (.iastore, 1) := by decide +kernel
theorem dX9_comesWalker_50 : decode cX9_comesWalker 50 = .ok (.aload_n 0, 1) := by decide +kernel
theorem dX9_comesWalker_51 : decode cX9_comesWalker 51 = .ok (.getfield 31, 3) := by decide +kernel
theorem dX9_comesWalker_54 : decode cX9_comesWalker 54 = .ok (.aload_n 0, 1) := by decide +kernel
theorem dX9_comesWalker_55 : decode cX9_comesWalker 55 = .ok (.getfield 86, 3) := by decide +kernel
theorem dX9_comesWalker_58 : decode cX9_comesWalker 58 = .ok (.iload_n 3, 1) := by decide +kernel
theorem dX9_comesWalker_59 : decode cX9_comesWalker 59 = .ok (.iconst 2, 1) := by decide +kernel
theorem dX9_comesWalker_60 : decode cX9_comesWalker 60 = .ok (.idiv, 1) := by decide +kernel
theorem dX9_comesWalker_61 : decode cX9_comesWalker 61 = .ok (.iconst 1, 1) := by decide +kernel
theorem dX9_comesWalker_62 : decode cX9_comesWalker 62 = .ok (.if_icmp .ge 7, 3) := by decide +kernel
theorem dX9_comesWalker_65 : decode cX9_comesWalker 65 = .ok (.iconst 1, 1) := by decide +kernel
theorem dX9_comesWalker_66 : decode cX9_comesWalker 66 = .ok (.goto 6, 3) := by decide +kernel
theorem dX9_comesWalker_69 : decode cX9_comesWalker 69 = .ok (.iload_n 3, 1) := by decide +kernel
theorem dX9_comesWalker_70 : decode cX9_comesWalker 70 = .ok (.iconst 2, 1) := by decide +kernel
theorem dX9_comesWalker_71 : decode cX9_comesWalker 71 = .ok (.idiv, 1) := by decide +kernel
theorem dX9_comesWalker_72 : decode cX9_comesWalker 72 = .ok (.iastore, 1) := by decide +kernel
theorem dX9_comesWalker_73 : decode cX9_comesWalker 73 = .ok (.aload_n 0, 1) := by decide +kernel
theorem dX9_comesWalker_74 : decode cX9_comesWalker 74 = .ok (.getfield 34, 3) := by decide +kernel
theorem dX9_comesWalker_77 : decode cX9_comesWalker 77 = .ok (.aload_n 0, 1) := by decide +kernel
theorem dX9_comesWalker_78 : decode cX9_comesWalker 78 = .ok (.getfield 86, 3) := by decide +kernel
theorem dX9_comesWalker_81 : decode cX9_comesWalker 81 = .ok (.bipush 9, 2) := by decide +kernel
theorem dX9_comesWalker_83 : decode cX9_comesWalker 83 = .ok (.iastore, 1) := by decide +kernel
theorem dX9_comesWalker_84 : decode cX9_comesWalker 84 = .ok (.aload_n 0, 1) := by decide +kernel
theorem dX9_comesWalker_85 : decode cX9_comesWalker 85 = .ok (.getfield 37, 3) := by decide +kernel
theorem dX9_comesWalker_88 : decode cX9_comesWalker 88 = .ok (.aload_n 0, 1) := by decide +kernel
theorem dX9_comesWalker_89 : decode cX9_comesWalker 89 = .ok (.getfield 86, 3) := by decide +kernel
theorem dX9_comesWalker_92 : decode cX9_comesWalker 92 = .ok (.iconst 5, 1) := by decide +kernel
theorem dX9_comesWalker_93 : decode cX9_comesWalker 93 = .ok (.iastore, 1) := by decide +kernel
theorem dX9_comesWalker_94 : decode cX9_comesWalker 94 = .ok (.aload_n 0, 1) := by decide +kernel
end
section
theorem dX9_comesWalker_95 : decode cX9_comesWalker 95 = .ok (.getfield 40, 3) := by decide +kernel
theorem dX9_comesWalker_98 : decode cX9_comesWalker 98 = .ok (.aload_n 0, 1) := by decide +kernel
theorem dX9_comesWalker_99 : decode cX9_comesWalker 99 = .ok (.getfield 86, 3) := by decide +kernel
theorem dX9_comesWalker_102 : decode cX9_comesWalker 102 = .ok (.iconst 5, 1) := by decide +kernel
theorem dX9_comesWalker_103 : decode cX9_comesWalker 103 = .ok (.iastore, 1) := by decide +kernel
theorem dX9_comesWalker_104 : decode cX9_comesWalker 104 = .ok (.aload_n 0, 1) := by decide +kernel
theorem dX9_comesWalker_105 : decode cX9_comesWalker 105 = .ok (.dup, 1) := by decide +kernel
theorem dX9_comesWalker_106 : decode cX9_comesWalker 106 = .ok (.getfield 86, 3) := by decide +kernel
theorem dX9_comesWalker_109 : decode cX9_comesWalker 109 = .ok (.iconst 1, 1) := by decide +kernel
theorem dX9_comesWalker_110 : decode cX9_comesWalker 110 = .ok (.iadd, 1) := by decide +kernel
theorem dX9_comesWalker_111 : decode cX9_comesWalker 111 = .ok (.putfield 86, 3) := by decide +kernel
theorem dX9_comesWalker_114 : decode cX9_comesWalker 114 = .ok (.aload_n 0, 1) := by decide +kernel
theorem dX9_comesWalker_115 : decode cX9_comesWalker 115 = .ok (.iconst 0, 1) := by decide +kernel
theorem dX9_comesWalker_116 : decode cX9_comesWalker 116 = .ok (.putfield 89, 3) := by decide +kernel
theorem dX9_comesWalker_119 : decode cX9_comesWalker 119 = .ok (.return_, 1) := by decide +kernel
theorem dX9_chair_0 : decode cX9_chair 0 = .ok (.aload_n 0, 1) := by decide +kernel
theorem dX9_chair_1 : decode cX9_chair 1 = .ok (.iload_n 1, 1) := by decide +kernel
theorem dX9_chair_2 : decode cX9_chair 2 = .ok (.invokevirtual 92, 3) := by decide +kernel
theorem dX9_chair_5 : decode cX9_chair 5 = .ok (.ifCond .ne 9, 3) := by decide +kernel
theorem dX9_chair_8 : decode cX9_chair 8 = .ok (.aload_n 0, 1) := by decide +kernel
theorem dX9_chair_9 : decode cX9_chair 9 = .ok (.iconst (-1), 1) := by decide +kernel
theorem dX9_chair_10 : decode cX9_chair 10 = .ok (.invokevirtual 96, 3) := by decide +kernel
theorem dX9_chair_13 : decode cX9_chair 13 = .ok (.ireturn, 1) := by decide +kernel
theorem dX9_chair_14 : decode cX9_chair 14 = .ok (.aload_n 0, 1) := by decide +kernel
theorem dX9_chair_15 : decode cX9_chair 15 = .ok (.getfield 13, 3) := by decide +kernel
theorem dX9_chair_18 : decode cX9_chair 18 = .ok (.iload_n 1, 1) := by decide +kernel
theorem dX9_chair_19 : decode cX9_chair 19 = .ok (.iaload, 1) := by decide +kernel
theorem dX9_chair_20 : decode cX9_chair 20 = .ok (.iconst 1, 1) := by decide +kernel
theorem dX9_chair_21 : decode cX9_chair 21 = .ok (.if_icmp .ne 10, 3) := by decide +kernel
theorem dX9_chair_24 : decode cX9_chair 24 = .ok (.aload_n 0, 1) := by decide +kernel
theorem dX9_chair_25 : decode cX9_chair 25 = .ok (.bipush (-3), 2) := by decide +kernel
theorem dX9_chair_27 : decode cX9_chair 27 = .ok (.invokevirtual 96, 3) := by decide +kernel
theorem dX9_chair_30 : decode cX9_chair 30 = .ok (.ireturn, 1) := by decide +kernel
theorem dX9_chair_31 : decode cX9_chair 31 = .ok (.aload_n 0, 1) := by decide +kernel
theorem dX9_chair_32 : decode cX9_chair 32 = .ok (.invokevirtual 100, 3) := by decide +kernel
theorem dX9_chair_35 : decode cX9_chair 35 = .ok (.bipush 11, 2) := by decide +kernel
theorem dX9_chair_37 : decode cX9_chair 37 = .ok (.if_icmp .ne 10, 3) := by decide +kernel
theorem dX9_chair_40 : decode cX9_chair 40 = .ok (.aload_n 0, 1) := by decide +kernel
theorem dX9_chair_41 : decode cX9_chair 41 = .ok (.bipush (-6), 2) := by decide +kernel
theorem dX9_chair_43 : decode cX9_chair 43 = .ok (.invokevirtual 96, 3) := by decide +kernel
theorem dX9_chair_46 : decode cX9_chair 46 = .ok (.ireturn, 1) := by decide +kernel
theorem dX9_chair_47 : decode cX9_chair 47 = .ok (.aload_n 0, 1) := by decide +kernel
theorem dX9_chair_48 : decode cX9_chair 48 = .ok (.iload_n 1, 1) := by decide +kernel
theorem dX9_chair_49 : decode cX9_chair 49 = .ok (.invokevirtual 104, 3) := by decide +kernel
theorem dX9_chair_52 : decode cX9_chair 52 = .ok (.aload_n 0, 1) := by decide +kernel
theorem dX9_chair_53 : decode cX9_chair 53 = .ok (.invokevirtual 100, 3) := by decide +kernel
theorem dX9_chair_56 : decode cX9_chair 56 = .ok (.ireturn, 1) := by decide +kernel
theorem dX9_walker_0 : decode cX9_walker 0 = .ok (.aload_n 0, 1) := by decide +kernel
theorem dX9_walker_1 : decode cX9_walker 1 = .ok (.iload_n 1, 1) := by decide +kernel
theorem dX9_walker_2 : decode cX9_walker 2 = .ok (.invokevirtual 92, 3) := by decide +kernel
theorem dX9_walker_5 : decode cX9_walker 5 = .ok (.ifCond .eq 13, 3) := by decide +kernel
theorem dX9_walker_8 : decode cX9_walker 8 = .ok (.iload_n 2, 1) := by decide +kernel
theorem dX9_walker_9 : decode cX9_walker 9 = .ok (.iconst 0, 1) := by decide +kernel
theorem dX9_walker_10 : decode cX9_walker 10 = .ok (.bipush 6, 2) := by decide +kernel
theorem dX9_walker_12 : decode cX9_walker 12 = .ok (.invokestatic 108, 3) := by decide +kernel
theorem dX9_walker_15 : decode cX9_walker 15 = .ok (.ifCond .ne 9, 3) := by decide +kernel
theorem dX9_walker_18 : decode cX9_walker 18 = .ok (.aload_n 0, 1) := by decide +kernel
theorem dX9_walker_19 : decode cX9_walker 19 = .ok (.iconst (-1), 1) := by decide +kernel
theorem dX9_walker_20 : decode cX9_walker 20 = .ok (.invokevirtual 96, 3) := by decide +kernel
theorem dX9_walker_23 : decode cX9_walker 23 = .ok (.ireturn, 1) := by decide +kernel
theorem dX9_walker_24 : decode cX9_walker 24 = .ok (.iload_n 3, 1) := by decide +kernel
theorem dX9_walker_25 : decode cX9_walker 25 = .ok (.iconst 1, 1) := by decide +kernel
theorem dX9_walker_26 : decode cX9_walker 26 = .ok (.bipush 99, 2) := by decide +kernel
theorem dX9_walker_28 : decode cX9_walker 28 = .ok (.invokestatic 112, 3) := by decide +kernel
theorem dX9_walker_31 : decode cX9_walker 31 = .ok (.istore 4, 2) := by decide +kernel
theorem dX9_walker_33 : decode cX9_walker 33 = .ok (.iload 4, 2) := by decide +kernel
theorem dX9_walker_35 : decode cX9_walker 35 = .ok (.ifCond .ne 16, 3) := by decide +kernel
theorem dX9_walker_38 : decode cX9_walker 38 = .ok (.aload_n 0, 1) := by decide +kernel
theorem dX9_walker_39 : decode cX9_walker 39 = .ok (.getfield 86, 3) := by decide +kernel
theorem dX9_walker_42 : decode cX9_walker 42 = .ok (.bipush 12, 2) := by decide +kernel
theorem dX9_walker_44 : decode cX9_walker 44 = .ok (.if_icmp .ne 7, 3) := by decide +kernel
theorem dX9_walker_47 : decode cX9_walker 47 = .ok (.bipush (-6), 2) := by decide +kernel
theorem dX9_walker_49 : decode cX9_walker 49 = .ok (.istore 4, 2) := by decide +kernel
theorem dX9_walker_51 : decode cX9_walker 51 = .ok (.iload 4, 2) := by decide +kernel
theorem dX9_walker_53 : decode cX9_walker 53 = .ok (.ifCond .ne 15, 3) := by decide +kernel
theorem dX9_walker_56 : decode cX9_walker 56 = .ok (.aload_n 0, 1) := by decide +kernel
theorem dX9_walker_57 : decode cX9_walker 57 = .ok (.iload_n 1, 1) := by decide +kernel
theorem dX9_walker_58 : decode cX9_walker 58 = .ok (.invokevirtual 116, 3) := by decide +kernel
theorem dX9_walker_61 : decode cX9_walker 61 = .ok (.ifCond .eq 7, 3) := by decide +kernel
theorem dX9_walker_64 : decode cX9_walker 64 = .ok (.bipush (-3), 2) := by decide +kernel
theorem dX9_walker_66 : decode cX9_walker 66 = .ok (.istore 4, 2) := by decide +kernel
theorem dX9_walker_68 : decode cX9_walker 68 = .ok (.iload 4, 2) := by decide +kernel
theorem dX9_walker_70 : decode cX9_walker 70 = .ok (.ifCond .eq 10, 3) := by decide +kernel
theorem dX9_walker_73 : decode cX9_walker 73 = .ok (.aload_n 0, 1) := by decide +kernel
theorem dX9_walker_74 : decode cX9_walker 74 = .ok (.iload 4, 2) := by decide +kernel
theorem dX9_walker_76 : decode cX9_walker 76 = .ok (.invokevirtual 96, 3) := by decide +kernel
theorem dX9_walker_79 : decode cX9_walker 79 = .ok (.ireturn, 1) := by decide +kernel
theorem dX9_walker_80 : decode cX9_walker 80 = .ok (.aload_n 0, 1) := by decide +kernel
theorem dX9_walker_81 : decode cX9_walker 81 = .ok (.iload_n 1, 1) := by decide +kernel
theorem dX9_walker_82 : decode cX9_walker 82 = .ok (.iload_n 2, 1) := by decide +kernel
theorem dX9_walker_83 : decode cX9_walker 83 = .ok (.iload_n 3, 1) := by decide +kernel
theorem dX9_walker_84 : decode cX9_walker 84 = .ok (.invokevirtual 119, 3) := by decide +kernel
theorem dX9_walker_87 : decode cX9_walker 87 = .ok (.aload_n 0, 1) := by decide +kernel
theorem dX9_walker_88 : decode cX9_walker 88 = .ok (.getfield 86, 3) := by decide +kernel
theorem dX9_walker_91 : decode cX9_walker 91 = .ok (.iconst 1, 1) := by decide +kernel
theorem dX9_walker_92 : decode cX9_walker 92 = .ok (.isub, 1) := by decide +kernel
theorem dX9_walker_93 : decode cX9_walker 93 = .ok (.ireturn, 1) := by decide +kernel
theorem dX9_set_0 : decode cX9_set 0 = .ok (.aload_n 0, 1) := by decide +kernel
theorem dX9_set_1 : decode cX9_set 1 = .ok (.iload_n 1, 1) := by decide +kernel
theorem dX9_set_2 : decode cX9_set 2 = .ok (.invokevirtual 123, 3) := by decide +kernel
theorem dX9_set_5 : decode cX9_set 5 = .ok (.ifCond .ne 9, 3) := by decide +kernel
theorem dX9_set_8 : decode cX9_set 8 = .ok (.aload_n 0, 1) := by decide +kernel
theorem dX9_set_9 : decode cX9_set 9 = .ok (.iconst (-1), 1) := by decide +kernel
theorem dX9_set_10 : decode cX9_set 10 = .ok (.invokevirtual 96, 3) := by decide +kernel
theorem dX9_set_13 : decode cX9_set 13 = .ok (.ireturn, 1) := by decide +kernel
theorem dX9_set_14 : decode cX9_set 14 = .ok (.iload_n 2, 1) := by decide +kernel
theorem dX9_set_15 : decode cX9_set 15 = .ok (.iconst 0, 1) := by decide +kernel
theorem dX9_set_16 : decode cX9_set 16 = .ok (.iconst 5, 1) := by decide +kernel
theorem dX9_set_17 : decode cX9_set 17 = .ok (.invokestatic 108, 3) := by decide +kernel
theorem dX9_set_20 : decode cX9_set 20 = .ok (.ifCond .ne 10, 3) := by decide +kernel
theorem dX9_set_23 : decode cX9_set 23 = .ok (.aload_n 0, 1) := by decide +kernel
theorem dX9_set_24 : decode cX9_set 24 = .ok (.bipush (-2), 2) := by decide +kernel
theorem dX9_set_26 : decode cX9_set 26 = .ok (.invokevirtual 96, 3) := by decide +kernel
theorem dX9_set_29 : decode cX9_set 29 = .ok (.ireturn, 1) := by decide +kernel
theorem dX9_set_30 : decode cX9_set 30 = .ok (.iload_n 2, 1) := by decide +kernel
theorem dX9_set_31 : decode cX9_set 31 = .ok (.iconst 2, 1) := by decide +kernel
theorem dX9_set_32 : decode cX9_set 32 = .ok (.if_icmp .ge 13, 3) := by decide +kernel
theorem dX9_set_35 : decode cX9_set 35 = .ok (.iload_n 3, 1) := by decide +kernel
theorem dX9_set_36 : decode cX9_set 36 = .ok (.iconst 1, 1) := by decide +kernel
theorem dX9_set_37 : decode cX9_set 37 = .ok (.bipush 99, 2) := by decide +kernel
theorem dX9_set_39 : decode cX9_set 39 = .ok (.invokestatic 112, 3) := by decide +kernel
theorem dX9_set_42 : decode cX9_set 42 = .ok (.goto 20, 3) := by decide +kernel
theorem dX9_set_45 : decode cX9_set 45 = .ok (.iload_n 3, 1) := by decide +kernel
theorem dX9_set_46 : decode cX9_set 46 = .ok (.iconst 0, 1) := by decide +kernel
theorem dX9_set_47 : decode cX9_set 47 = .ok (.iload_n 2, 1) := by decide +kernel
theorem dX9_set_48 : decode cX9_set 48 = .ok (.iconst 5, 1) := by decide +kernel
theorem dX9_set_49 : decode cX9_set 49 = .ok (.if_icmp .ne 8, 3) := by decide +kernel
theorem dX9_set_52 : decode cX9_set 52 = .ok (.bipush 6, 2) := by decide +kernel
theorem dX9_set_54 : decode cX9_set 54 = .ok (.goto 5, 3) := by decide +kernel
theorem dX9_set_57 : decode cX9_set 57 = .ok (.bipush 9, 2) := by decide +kernel
theorem dX9_set_59 : decode cX9_set 59 = .ok (.invokestatic 112, 3) := by decide +kernel
theorem dX9_set_62 : decode cX9_set 62 = .ok (.istore 4, 2) := by decide +kernel
theorem dX9_set_64 : decode cX9_set 64 = .ok (.iload 4, 2) := by decide +kernel
theorem dX9_set_66 : decode cX9_set 66 = .ok (.ifCond .eq 10, 3) := by decide +kernel
theorem dX9_set_69 : decode cX9_set 69 = .ok (.aload_n 0, 1) := by decide +kernel
theorem dX9_set_70 : decode cX9_set 70 = .ok (.iload 4, 2) := by decide +kernel
theorem dX9_set_72 : decode cX9_set 72 = .ok (.invokevirtual 96, 3) := by decide +kernel
theorem dX9_set_75 : decode cX9_set 75 = .ok (.ireturn, 1) := by decide +kernel
theorem dX9_set_76 : decode cX9_set 76 = .ok (.iload_n 2, 1) := by decide +kernel
theorem dX9_set_77 : decode cX9_set 77 = .ok (.ifCond .ne 10, 3) := by decide +kernel
theorem dX9_set_80 : decode cX9_set 80 = .ok (.aload_n 0, 1) := by decide +kernel
theorem dX9_set_81 : decode cX9_set 81 = .ok (.getfield 28, 3) := by decide +kernel
theorem dX9_set_84 : decode cX9_set 84 = .ok (.goto 55, 3) := by decide +kernel
theorem dX9_set_87 : decode cX9_set 87 = .ok (.iload_n 2, 1) := by decide +kernel
theorem dX9_set_88 : decode cX9_set 88 = .ok (.iconst 1, 1) := by decide +kernel
theorem dX9_set_89 : decode cX9_set 89 = .ok (.if_icmp .ne 10, 3) := by decide +kernel
theorem dX9_set_92 : decode cX9_set 92 = .ok (.aload_n 0, 1) := by decide +kernel
theorem dX9_set_93 : decode cX9_set 93 = .ok (.getfield 31, 3) := by decide +kernel
theorem dX9_set_96 : decode cX9_set 96 = .ok (.goto 43, 3) := by decide +kernel
theorem dX9_set_99 : decode cX9_set 99 = .ok (.iload_n 2, 1) := by decide +kernel
theorem dX9_set_100 : decode cX9_set 100 = .ok (.iconst 2, 1) := by decide +kernel
theorem dX9_set_101 : decode cX9_set 101 = .ok (.if_icmp .ne 10, 3) := by decide +kernel
theorem dX9_set_104 : decode cX9_set 104 = .ok (.aload_n 0, 1) := by decide +kernel
theorem dX9_set_105 : decode cX9_set 105 = .ok (.getfield 34, 3) := by decide +kernel
theorem dX9_set_108 : decode cX9_set 108 = .ok (.goto 31, 3) := by decide +kernel
theorem dX9_set_111 : decode cX9_set 111 = .ok (.iload_n 2, 1) := by decide +kernel
theorem dX9_set_112 : decode cX9_set 112 = .ok (.iconst 3, 1) := by decide +kernel
theorem dX9_set_113 : decode cX9_set 113 = .ok (.if_icmp .ne 10, 3) := by decide +kernel
theorem dX9_set_116 : decode cX9_set 116 = .ok (.aload_n 0, 1) := by decide +kernel
theorem dX9_set_117 : decode cX9_set 117 = .ok (.getfield 37, 3) := by decide +kernel
theorem dX9_set_120 : decode cX9_set 120 = .ok (.goto 19, 3) := by decide +kernel
theorem dX9_set_123 : decode cX9_set 123 = .ok (.iload_n 2, 1) := by decide +kernel
theorem dX9_set_124 : decode cX9_set 124 = .ok (.iconst 4, 1) := by decide +kernel
theorem dX9_set_125 : decode cX9_set 125 = .ok (.if_icmp .ne 10, 3) := by decide +kernel
theorem dX9_set_128 : decode cX9_set 128 = .ok (.aload_n 0, 1) := by decide +kernel
theorem dX9_set_129 : decode cX9_set 129 = .ok (.getfield 40, 3) := by decide +kernel
theorem dX9_set_132 : decode cX9_set 132 = .ok (.goto 7, 3) := by decide +kernel
theorem dX9_set_135 : decode cX9_set 135 = .ok (.aload_n 0, 1) := by decide +kernel
theorem dX9_set_136 : decode cX9_set 136 = .ok (.getfield 25, 3) := by decide +kernel
theorem dX9_set_139 : decode cX9_set 139 = .ok (.astore 5, 2) := by decide +kernel
theorem dX9_set_141 : decode cX9_set 141 = .ok (.aload 5, 2) := by decide +kernel
theorem dX9_set_143 : decode cX9_set 143 = .ok (.iload_n 1, 1) := by decide +kernel
theorem dX9_set_144 : decode cX9_set 144 = .ok (.iaload, 1) := by decide +kernel
theorem dX9_set_145 : decode cX9_set 145 = .ok (.istore 6, 2) := by decide +kernel
theorem dX9_set_147 : decode cX9_set 147 = .ok (.aload 5, 2) := by decide +kernel
theorem dX9_set_149 : decode cX9_set 149 = .ok (.iload_n 1, 1) := by decide +kernel
theorem dX9_set_150 : decode cX9_set 150 = .ok (.iload_n 3, 1) := by decide +kernel
theorem dX9_set_151 : decode cX9_set 151 = .ok (.iastore, 1) := by decide +kernel
theorem dX9_set_152 : decode cX9_set 152 = .ok (.iload 6, 2) := by decide +kernel
theorem dX9_set_154 : decode cX9_set 154 = .ok (.ireturn, 1) := by decide +kernel
theorem dX9_player_0 : decode cX9_player 0 = .ok (.iload_n 1, 1) := by decide +kernel
theorem dX9_player_1 : decode cX9_player 1 = .ok (.iconst 0, 1) := by decide +kernel
theorem dX9_player_2 : decode cX9_player 2 = .ok (.iconst 4, 1) := by decide +kernel
theorem dX9_player_3 : decode cX9_player 3 = .ok (.invokestatic 108, 3) := by decide +kernel
theorem dX9_player_6 : decode cX9_player 6 = .ok (.ifCond .ne 9, 3) := by decide +kernel
theorem dX9_player_9 : decode cX9_player 9 = .ok (.aload_n 0, 1) := by decide +kernel
theorem dX9_player_10 : decode cX9_player 10 = .ok (.iconst (-1), 1) := by decide +kernel
theorem dX9_player_11 : decode cX9_player 11 = .ok (.invokevirtual 96, 3) := by decide +kernel
theorem dX9_player_14 : decode cX9_player 14 = .ok (.ireturn, 1) := by decide +kernel
theorem dX9_player_15 : decode cX9_player 15 = .ok (.iload_n 2, 1) := by decide +kernel
theorem dX9_player_16 : decode cX9_player 16 = .ok (.iconst 1, 1) := by decide +kernel
theorem dX9_player_17 : decode cX9_player 17 = .ok (.bipush 99, 2) := by decide +kernel
theorem dX9_player_19 : decode cX9_player 19 = .ok (.invokestatic 112, 3) := by decide +kernel
theorem dX9_player_22 : decode cX9_player 22 = .ok (.istore_n 3, 1) := by decide +kernel
theorem dX9_player_23 : decode cX9_player 23 = .ok (.iload_n 3, 1) := by decide +kernel
theorem dX9_player_24 : decode cX9_player 24 = .ok (.ifCond .eq 9, 3) := by decide +kernel
theorem dX9_player_27 : decode cX9_player 27 = .ok (.aload_n 0, 1) := by decide +kernel
theorem dX9_player_28 : decode cX9_player 28 = .ok (.iload_n 3, 1) := by decide +kernel
theorem dX9_player_29 : decode cX9_player 29 = .ok (.invokevirtual 96, 3) := by decide +kernel
theorem dX9_player_32 : decode cX9_player 32 = .ok (.ireturn, 1) := by decide +kernel
theorem dX9_player_33 : decode cX9_player 33 = .ok (.aload_n 0, 1) := by decide +kernel
theorem dX9_player_34 : decode cX9_player 34 = .ok (.getfield 126, 3) := by decide +kernel
theorem dX9_player_37 : decode cX9_player 37 = .ok (.istore 4, 2) := by decide +kernel
theorem dX9_player_39 : decode cX9_player 39 = .ok (.aload_n 0, 1) := by decide +kernel
theorem dX9_player_40 : decode cX9_player 40 = .ok (.iload_n 1, 1) := by decide +kernel
theorem dX9_player_41 : decode cX9_player 41 = .ok (.putfield 126, 3) := by decide +kernel
theorem dX9_player_44 : decode cX9_player 44 = .ok (.aload_n 0, 1) := by decide +kernel
theorem dX9_player_45 : decode cX9_player 45 = .ok (.iload_n 2, 1) := by decide +kernel
theorem dX9_player_46 : decode cX9_player 46 = .ok (.putfield 47, 3) := by decide +kernel
theorem dX9_player_49 : decode cX9_player 49 = .ok (.iload 4, 2) := by decide +kernel
theorem dX9_player_51 : decode cX9_player 51 = .ok (.ireturn, 1) := by decide +kernel
theorem dX9_form_0 : decode cX9_form 0 = .ok (.iload_n 1, 1) := by decide +kernel
theorem dX9_form_1 : decode cX9_form 1 = .ok (.iconst 0, 1) := by decide +kernel
theorem dX9_form_2 : decode cX9_form 2 = .ok (.iconst 2, 1) := by decide +kernel
theorem dX9_form_3 : decode cX9_form 3 = .ok (.invokestatic 112, 3) := by decide +kernel
theorem dX9_form_6 : decode cX9_form 6 = .ok (.istore_n 2, 1) := by decide +kernel
theorem dX9_form_7 : decode cX9_form 7 = .ok (.iload_n 2, 1) := by decide +kernel
theorem dX9_form_8 : decode cX9_form 8 = .ok (.ifCond .eq 9, 3) := by decide +kernel
theorem dX9_form_11 : decode cX9_form 11 = .ok (.aload_n 0, 1) := by decide +kernel
theorem dX9_form_12 : decode cX9_form 12 = .ok (.iload_n 2, 1) := by decide +kernel
theorem dX9_form_13 : decode cX9_form 13 = .ok (.invokevirtual 96, 3) := by decide +kernel
theorem dX9_form_16 : decode cX9_form 16 = .ok (.ireturn, 1) := by decide +kernel
theorem dX9_form_17 : decode cX9_form 17 = .ok (.aload_n 0, 1) := by decide +kernel
theorem dX9_form_18 : decode cX9_form 18 = .ok (.getfield 129, 3) := by decide +kernel
theorem dX9_form_21 : decode cX9_form 21 = .ok (.istore_n 3, 1) := by decide +kernel
theorem dX9_form_22 : decode cX9_form 22 = .ok (.aload_n 0, 1) := by decide +kernel
theorem dX9_form_23 : decode cX9_form 23 = .ok (.iload_n 1, 1) := by decide +kernel
theorem dX9_form_24 : decode cX9_form 24 = .ok (.putfield 129, 3) := by decide +kernel
theorem dX9_form_27 : decode cX9_form 27 = .ok (.iload_n 3, 1) := by decide +kernel
theorem dX9_form_28 : decode cX9_form 28 = .ok (.ireturn, 1) := by decide +kernel
theorem dX9_seed_0 : decode cX9_seed 0 = .ok (.aload_n 0, 1) := by decide +kernel
theorem dX9_seed_1 : decode cX9_seed 1 = .ok (.getfield 50, 3) := by decide +kernel
theorem dX9_seed_4 : decode cX9_seed 4 = .ok (.istore_n 2, 1) := by decide +kernel
theorem dX9_seed_5 : decode cX9_seed 5 = .ok (.aload_n 0, 1) := by decide +kernel
theorem dX9_seed_6 : decode cX9_seed 6 = .ok (.iload_n 1, 1) := by decide +kernel
theorem dX9_seed_7 : decode cX9_seed 7 = .ok (.putfield 50, 3) := by decide +kernel
theorem dX9_seed_10 : decode cX9_seed 10 = .ok (.iload_n 2, 1) := by decide +kernel
theorem dX9_seed_11 : decode cX9_seed 11 = .ok (.ireturn, 1) := by decide +kernel
theorem dX9_of_0 : decode cX9_of 0 = .ok (.aload_n 0, 1) := by decide +kernel
theorem dX9_of_1 : decode cX9_of 1 = .ok (.iload_n 1, 1) := by decide +kernel
theorem dX9_of_2 : decode cX9_of 2 = .ok (.invokevirtual 123, 3) := by decide +kernel
theorem dX9_of_5 : decode cX9_of 5 = .ok (.ifCond .ne 9, 3) := by decide +kernel
theorem dX9_of_8 : decode cX9_of 8 = .ok (.aload_n 0, 1) := by decide +kernel
theorem dX9_of_9 : decode cX9_of 9 = .ok (.iconst (-1), 1) := by decide +kernel
theorem dX9_of_10 : decode cX9_of 10 = .ok (.invokevirtual 96, 3) := by decide +kernel
theorem dX9_of_13 : decode cX9_of 13 = .ok (.ireturn, 1) := by decide +kernel
theorem dX9_of_14 : decode cX9_of 14 = .ok (.iload_n 2, 1) := by decide +kernel
theorem dX9_of_15 : decode cX9_of 15 = .ok (.tableswitch 79 0 5 #[37, 44, 51, 58, 65, 72], 37) := by decide +kernel
theorem dX9_of_52 : decode cX9_of 52 = .ok (.aload_n 0, 1) := by decide +kernel
theorem dX9_of_53 : decode cX9_of 53 = .ok (.getfield 16, 3) := by decide +kernel
theorem dX9_of_56 : decode cX9_of 56 = .ok (.iload_n 1, 1) := by decide +kernel
theorem dX9_of_57 : decode cX9_of 57 = .ok (.iaload, 1) := by decide +kernel
theorem dX9_of_58 : decode cX9_of 58 = .ok (.ireturn, 1) := by decide +kernel
theorem dX9_of_59 : decode cX9_of 59 = .ok (.aload_n 0, 1) := by decide +kernel
theorem dX9_of_60 : decode cX9_of 60 = .ok (.getfield 19, 3) := by decide +kernel
theorem dX9_of_63 : decode cX9_of 63 = .ok (.iload_n 1, 1) := by decide +kernel
theorem dX9_of_64 : decode cX9_of 64 = .ok (.iaload, 1) := by decide +kernel
theorem dX9_of_65 : decode cX9_of 65 = .ok (.ireturn, 1) := by decide +kernel
theorem dX9_of_66 : decode cX9_of 66 = .ok (.aload_n 0, 1) := by decide +kernel
theorem dX9_of_67 : decode cX9_of 67 = .ok (.getfield 22, 3) := by decide +kernel
theorem dX9_of_70 : decode cX9_of 70 = .ok (.iload_n 1, 1) := by decide +kernel
theorem dX9_of_71 : decode cX9_of 71 = .ok (.iaload, 1) := by decide +kernel
theorem dX9_of_72 : decode cX9_of 72 = .ok (.ireturn, 1) := by decide +kernel
theorem dX9_of_73 : decode cX9_of 73 = .ok (.aload_n 0, 1) := by decide +kernel
theorem dX9_of_74 : decode cX9_of 74 = .ok (.getfield 25, 3) := by decide +kernel
theorem dX9_of_77 : decode cX9_of 77 = .ok (.iload_n 1, 1) := by decide +kernel
theorem dX9_of_78 : decode cX9_of 78 = .ok (.iaload, 1) := by decide +kernel
theorem dX9_of_79 : decode cX9_of 79 = .ok (.ireturn, 1) := by decide +kernel
theorem dX9_of_80 : decode cX9_of 80 = .ok (.aload_n 0, 1) := by decide +kernel
theorem dX9_of_81 : decode cX9_of 81 = .ok (.getfield 28, 3) := by decide +kernel
theorem dX9_of_84 : decode cX9_of 84 = .ok (.iload_n 1, 1) := by decide +kernel
theorem dX9_of_85 : decode cX9_of 85 = .ok (.iaload, 1) := by decide +kernel
theorem dX9_of_86 : decode cX9_of 86 = .ok (.ireturn, 1) := by decide +kernel
theorem dX9_of_87 : decode cX9_of 87 = .ok (.aload_n 0, 1) := by decide +kernel
theorem dX9_of_88 : decode cX9_of 88 = .ok (.getfield 31, 3) := by decide +kernel
theorem dX9_of_91 : decode cX9_of 91 = .ok (.iload_n 1, 1) := by decide +kernel
theorem dX9_of_92 : decode cX9_of 92 = .ok (.iaload, 1) := by decide +kernel
theorem dX9_of_93 : decode cX9_of 93 = .ok (.ireturn, 1) := by decide +kernel
theorem dX9_of_94 : decode cX9_of 94 = .ok (.aload_n 0, 1) := by decide +kernel
theorem dX9_of_95 : decode cX9_of 95 = .ok (.bipush (-2), 2) := by decide +kernel
theorem dX9_of_97 : decode cX9_of 97 = .ok (.invokevirtual 96, 3) := by decide +kernel
theorem dX9_of_100 : decode cX9_of 100 = .ok (.ireturn, 1) := by decide +kernel
theorem dX9_has_0 : decode cX9_has 0 = .ok (.aload_n 0, 1) := by decide +kernel
theorem dX9_has_1 : decode cX9_has 1 = .ok (.iload_n 1, 1) := by decide +kernel
theorem dX9_has_2 : decode cX9_has 2 = .ok (.invokevirtual 92, 3) := by decide +kernel
theorem dX9_has_5 : decode cX9_has 5 = .ok (.ifCond .eq 12, 3) := by decide +kernel
theorem dX9_has_8 : decode cX9_has 8 = .ok (.aload_n 0, 1) := by decide +kernel
theorem dX9_has_9 : decode cX9_has 9 = .ok (.getfield 13, 3) := by decide +kernel
theorem dX9_has_12 : decode cX9_has 12 = .ok (.iload_n 1, 1) := by decide +kernel
theorem dX9_has_13 : decode cX9_has 13 = .ok (.iaload, 1) := by decide +kernel
theorem dX9_has_14 : decode cX9_has 14 = .ok (.goto 8, 3) := by decide +kernel
theorem dX9_has_17 : decode cX9_has 17 = .ok (.aload_n 0, 1) := by decide +kernel
theorem dX9_has_18 : decode cX9_has 18 = .ok (.iconst (-1), 1) := by decide +kernel
theorem dX9_has_19 : decode cX9_has 19 = .ok (.invokevirtual 96, 3) := by decide +kernel
theorem dX9_has_22 : decode cX9_has 22 = .ok (.ireturn, 1) := by decide +kernel
theorem dX9_hasteOf_0 : decode cX9_hasteOf 0 = .ok (.aload_n 0, 1) := by decide +kernel
theorem dX9_hasteOf_1 : decode cX9_hasteOf 1 = .ok (.aload_n 0, 1) := by decide +kernel
theorem dX9_hasteOf_2 : decode cX9_hasteOf 2 = .ok (.getfield 16, 3) := by decide +kernel
theorem dX9_hasteOf_5 : decode cX9_hasteOf 5 = .ok (.iload_n 1, 1) := by decide +kernel
theorem dX9_hasteOf_6 : decode cX9_hasteOf 6 = .ok (.iaload, 1) := by decide +kernel
theorem dX9_hasteOf_7 : decode cX9_hasteOf 7 = .ok (.iload_n 2, 1) := by decide +kernel
theorem dX9_hasteOf_8 : decode cX9_hasteOf 8 = .ok (.invokevirtual 132, 3) := by decide +kernel
theorem dX9_hasteOf_11 : decode cX9_hasteOf 11 = .ok (.bipush 100, 2) := by decide +kernel
theorem dX9_hasteOf_13 : decode cX9_hasteOf 13 = .ok (.imul, 1) := by decide +kernel
theorem dX9_hasteOf_14 : decode cX9_hasteOf 14 = .ok (.aload_n 0, 1) := by decide +kernel
theorem dX9_hasteOf_15 : decode cX9_hasteOf 15 = .ok (.getfield 28, 3) := by decide +kernel
theorem dX9_hasteOf_18 : decode cX9_hasteOf 18 = .ok (.iload_n 1, 1) := by decide +kernel
theorem dX9_hasteOf_19 : decode cX9_hasteOf 19 = .ok (.iaload, 1) := by decide +kernel
theorem dX9_hasteOf_20 : decode cX9_hasteOf 20 = .ok (.idiv, 1) := by decide +kernel
theorem dX9_hasteOf_21 : decode cX9_hasteOf 21 = .ok (.istore_n 3, 1) := by decide +kernel
theorem dX9_hasteOf_22 : decode cX9_hasteOf 22 = .ok (.iload_n 3, 1) := by decide +kernel
theorem dX9_hasteOf_23 : decode cX9_hasteOf 23 = .ok (.istore 4, 2) := by decide +kernel
theorem dX9_hasteOf_25 : decode cX9_hasteOf 25 = .ok (.aload_n 0, 1) := by decide +kernel
theorem dX9_hasteOf_26 : decode cX9_hasteOf 26 = .ok (.getfield 25, 3) := by decide +kernel
theorem dX9_hasteOf_29 : decode cX9_hasteOf 29 = .ok (.iload_n 1, 1) := by decide +kernel
theorem dX9_hasteOf_30 : decode cX9_hasteOf 30 = .ok (.iaload, 1) := by decide +kernel
theorem dX9_hasteOf_31 : decode cX9_hasteOf 31 = .ok (.tableswitch 129 1 6 #[37, 50, 63, 86, 94, 109], 37) := by decide +kernel
theorem dX9_hasteOf_68 : decode cX9_hasteOf 68 = .ok (.iload_n 3, 1) := by decide +kernel
theorem dX9_hasteOf_69 : decode cX9_hasteOf 69 = .ok (.aload_n 0, 1) := by decide +kernel
theorem dX9_hasteOf_70 : decode cX9_hasteOf 70 = .ok (.getfield 37, 3) := by decide +kernel
theorem dX9_hasteOf_73 : decode cX9_hasteOf 73 = .ok (.iload_n 1, 1) := by decide +kernel
theorem dX9_hasteOf_74 : decode cX9_hasteOf 74 = .ok (.iaload, 1) := by decide +kernel
theorem dX9_hasteOf_75 : decode cX9_hasteOf 75 = .ok (.isub, 1) := by decide +kernel
theorem dX9_hasteOf_76 : decode cX9_hasteOf 76 = .ok (.istore 4, 2) := by decide +kernel
theorem dX9_hasteOf_78 : decode cX9_hasteOf 78 = .ok (.goto 82, 3) := by decide +kernel
theorem dX9_hasteOf_81 : decode cX9_hasteOf 81 = .ok (.iload_n 3, 1) := by decide +kernel
theorem dX9_hasteOf_82 : decode cX9_hasteOf 82 = .ok (.aload_n 0, 1) := by decide +kernel
theorem dX9_hasteOf_83 : decode cX9_hasteOf 83 = .ok (.getfield 37, 3) := by decide +kernel
theorem dX9_hasteOf_86 : decode cX9_hasteOf 86 = .ok (.iload_n 1, 1) := by decide +kernel
theorem dX9_hasteOf_87 : decode cX9_hasteOf 87 = .ok (.iaload, 1) := by decide +kernel
theorem dX9_hasteOf_88 : decode cX9_hasteOf 88 = .ok (.iadd, 1) := by decide +kernel
theorem dX9_hasteOf_89 : decode cX9_hasteOf 89 = .ok (.istore 4, 2) := by decide +kernel
theorem dX9_hasteOf_91 : decode cX9_hasteOf 91 = .ok (.goto 69, 3) := by decide +kernel
theorem dX9_hasteOf_94 : decode cX9_hasteOf 94 = .ok (.iload_n 3, 1) := by decide +kernel
theorem dX9_hasteOf_95 : decode cX9_hasteOf 95 = .ok (.aload_n 0, 1) := by decide +kernel
theorem dX9_hasteOf_96 : decode cX9_hasteOf 96 = .ok (.getfield 37, 3) := by decide +kernel
theorem dX9_hasteOf_99 : decode cX9_hasteOf 99 = .ok (.iload_n 1, 1) := by decide +kernel
theorem dX9_hasteOf_100 : decode cX9_hasteOf 100 = .ok (.iaload, 1) := by decide +kernel
theorem dX9_hasteOf_101 : decode cX9_hasteOf 101 = .ok (.isub, 1) := by decide +kernel
theorem dX9_hasteOf_102 : decode cX9_hasteOf 102 = .ok (.bipush 9, 2) := by decide +kernel
theorem dX9_hasteOf_104 : decode cX9_hasteOf 104 = .ok (.aload_n 0, 1) := by decide +kernel
theorem dX9_hasteOf_105 : decode cX9_hasteOf 105 = .ok (.getfield 40, 3) := by decide +kernel
theorem dX9_hasteOf_108 : decode cX9_hasteOf 108 = .ok (.iload_n 1, 1) := by decide +kernel
theorem dX9_hasteOf_109 : decode cX9_hasteOf 109 = .ok (.iaload, 1) := by decide +kernel
theorem dX9_hasteOf_110 : decode cX9_hasteOf 110 = .ok (.isub, 1) := by decide +kernel
theorem dX9_hasteOf_111 : decode cX9_hasteOf 111 = .ok (.isub, 1) := by decide +kernel
theorem dX9_hasteOf_112 : decode cX9_hasteOf 112 = .ok (.istore 4, 2) := by decide +kernel
theorem dX9_hasteOf_114 : decode cX9_hasteOf 114 = .ok (.goto 46, 3) := by decide +kernel
theorem dX9_hasteOf_117 : decode cX9_hasteOf 117 = .ok (.iconst 2, 1) := by decide +kernel
theorem dX9_hasteOf_118 : decode cX9_hasteOf 118 = .ok (.iload_n 3, 1) := by decide +kernel
theorem dX9_hasteOf_119 : decode cX9_hasteOf 119 = .ok (.imul, 1) := by decide +kernel
theorem dX9_hasteOf_120 : decode cX9_hasteOf 120 = .ok (.istore 4, 2) := by decide +kernel
theorem dX9_hasteOf_122 : decode cX9_hasteOf 122 = .ok (.goto 38, 3) := by decide +kernel
theorem dX9_hasteOf_125 : decode cX9_hasteOf 125 = .ok (.iload_n 3, 1) := by decide +kernel
theorem dX9_hasteOf_126 : decode cX9_hasteOf 126 = .ok (.aload_n 0, 1) := by decide +kernel
theorem dX9_hasteOf_127 : decode cX9_hasteOf 127 = .ok (.getfield 37, 3) := by decide +kernel
theorem dX9_hasteOf_130 : decode cX9_hasteOf 130 = .ok (.iload_n 1, 1) := by decide +kernel
theorem dX9_hasteOf_131 : decode cX9_hasteOf 131 = .ok (.iaload, 1) := by decide +kernel
theorem dX9_hasteOf_132 : decode cX9_hasteOf 132 = .ok (.isub, 1) := by decide +kernel
theorem dX9_hasteOf_133 : decode cX9_hasteOf 133 = .ok (.iconst 2, 1) := by decide +kernel
theorem dX9_hasteOf_134 : decode cX9_hasteOf 134 = .ok (.idiv, 1) := by decide +kernel
theorem dX9_hasteOf_135 : decode cX9_hasteOf 135 = .ok (.istore 4, 2) := by decide +kernel
theorem dX9_hasteOf_137 : decode cX9_hasteOf 137 = .ok (.goto 23, 3) := by decide +kernel
theorem dX9_hasteOf_140 : decode cX9_hasteOf 140 = .ok (.iload_n 3, 1) := by decide +kernel
theorem dX9_hasteOf_141 : decode cX9_hasteOf 141 = .ok (.aload_n 0, 1) := by decide +kernel
theorem dX9_hasteOf_142 : decode cX9_hasteOf 142 = .ok (.getfield 37, 3) := by decide +kernel
theorem dX9_hasteOf_145 : decode cX9_hasteOf 145 = .ok (.iload_n 1, 1) := by decide +kernel
theorem dX9_hasteOf_146 : decode cX9_hasteOf 146 = .ok (.iaload, 1) := by decide +kernel
theorem dX9_hasteOf_147 : decode cX9_hasteOf 147 = .ok (.iadd, 1) := by decide +kernel
theorem dX9_hasteOf_148 : decode cX9_hasteOf 148 = .ok (.aload_n 0, 1) := by decide +kernel
theorem dX9_hasteOf_149 : decode cX9_hasteOf 149 = .ok (.getfield 40, 3) := by decide +kernel
theorem dX9_hasteOf_152 : decode cX9_hasteOf 152 = .ok (.iload_n 1, 1) := by decide +kernel
theorem dX9_hasteOf_153 : decode cX9_hasteOf 153 = .ok (.iaload, 1) := by decide +kernel
theorem dX9_hasteOf_154 : decode cX9_hasteOf 154 = .ok (.iadd, 1) := by decide +kernel
theorem dX9_hasteOf_155 : decode cX9_hasteOf 155 = .ok (.istore 4, 2) := by decide +kernel
theorem dX9_hasteOf_157 : decode cX9_hasteOf 157 = .ok (.goto 3, 3) := by decide +kernel
theorem dX9_hasteOf_160 : decode cX9_hasteOf 160 = .ok (.iload 4, 2) := by decide +kernel
theorem dX9_hasteOf_162 : decode cX9_hasteOf 162 = .ok (.ifCond .ge 7, 3) := by decide +kernel
theorem dX9_hasteOf_165 : decode cX9_hasteOf 165 = .ok (.iconst 0, 1) := by decide +kernel
theorem dX9_hasteOf_166 : decode cX9_hasteOf 166 = .ok (.goto 5, 3) := by decide +kernel
theorem dX9_hasteOf_169 : decode cX9_hasteOf 169 = .ok (.iload 4, 2) := by decide +kernel
theorem dX9_hasteOf_171 : decode cX9_hasteOf 171 = .ok (.ireturn, 1) := by decide +kernel
theorem dX9_haste_0 : decode cX9_haste 0 = .ok (.aload_n 0, 1) := by decide +kernel
theorem dX9_haste_1 : decode cX9_haste 1 = .ok (.iload_n 1, 1) := by decide +kernel
theorem dX9_haste_2 : decode cX9_haste 2 = .ok (.invokevirtual 123, 3) := by decide +kernel
theorem dX9_haste_5 : decode cX9_haste 5 = .ok (.ifCond .eq 20, 3) := by decide +kernel
theorem dX9_haste_8 : decode cX9_haste 8 = .ok (.aload_n 0, 1) := by decide +kernel
theorem dX9_haste_9 : decode cX9_haste 9 = .ok (.iload_n 2, 1) := by decide +kernel
theorem dX9_haste_10 : decode cX9_haste 10 = .ok (.invokevirtual 92, 3) := by decide +kernel
theorem dX9_haste_13 : decode cX9_haste 13 = .ok (.ifCond .eq 12, 3) := by decide +kernel
theorem dX9_haste_16 : decode cX9_haste 16 = .ok (.aload_n 0, 1) := by decide +kernel
theorem dX9_haste_17 : decode cX9_haste 17 = .ok (.iload_n 1, 1) := by decide +kernel
theorem dX9_haste_18 : decode cX9_haste 18 = .ok (.iload_n 2, 1) := by decide +kernel
theorem dX9_haste_19 : decode cX9_haste 19 = .ok (.invokevirtual 136, 3) := by decide +kernel
theorem dX9_haste_22 : decode cX9_haste 22 = .ok (.goto 8, 3) := by decide +kernel
theorem dX9_haste_25 : decode cX9_haste 25 = .ok (.aload_n 0, 1) := by decide +kernel
theorem dX9_haste_26 : decode cX9_haste 26 = .ok (.iconst (-1), 1) := by decide +kernel
theorem dX9_haste_27 : decode cX9_haste 27 = .ok (.invokevirtual 96, 3) := by decide +kernel
theorem dX9_haste_30 : decode cX9_haste 30 = .ok (.ireturn, 1) := by decide +kernel
theorem dX9_feed_0 : decode cX9_feed 0 = .ok (.iload_n 1, 1) := by decide +kernel
theorem dX9_feed_1 : decode cX9_feed 1 = .ok (.iconst 1, 1) := by decide +kernel
theorem dX9_feed_2 : decode cX9_feed 2 = .ok (.bipush 8, 2) := by decide +kernel
theorem dX9_feed_4 : decode cX9_feed 4 = .ok (.invokestatic 112, 3) := by decide +kernel
theorem dX9_feed_7 : decode cX9_feed 7 = .ok (.istore 4, 2) := by decide +kernel
theorem dX9_feed_9 : decode cX9_feed 9 = .ok (.iload 4, 2) := by decide +kernel
theorem dX9_feed_11 : decode cX9_feed 11 = .ok (.ifCond .ne 18, 3) := by decide +kernel
theorem dX9_feed_14 : decode cX9_feed 14 = .ok (.aload_n 0, 1) := by decide +kernel
theorem dX9_feed_15 : decode cX9_feed 15 = .ok (.getfield 139, 3) := by decide +kernel
theorem dX9_feed_18 : decode cX9_feed 18 = .ok (.iload_n 1, 1) := by decide +kernel
theorem dX9_feed_19 : decode cX9_feed 19 = .ok (.iadd, 1) := by decide +kernel
theorem dX9_feed_20 : decode cX9_feed 20 = .ok (.bipush 64, 2) := by decide +kernel
theorem dX9_feed_22 : decode cX9_feed 22 = .ok (.if_icmp .le 7, 3) := by decide +kernel
theorem dX9_feed_25 : decode cX9_feed 25 = .ok (.bipush (-6), 2) := by decide +kernel
theorem dX9_feed_27 : decode cX9_feed 27 = .ok (.istore 4, 2) := by decide +kernel
theorem dX9_feed_29 : decode cX9_feed 29 = .ok (.iload 4, 2) := by decide +kernel
theorem dX9_feed_31 : decode cX9_feed 31 = .ok (.ifCond .eq 10, 3) := by decide +kernel
theorem dX9_feed_34 : decode cX9_feed 34 = .ok (.aload_n 0, 1) := by decide +kernel
theorem dX9_feed_35 : decode cX9_feed 35 = .ok (.iload 4, 2) := by decide +kernel
theorem dX9_feed_37 : decode cX9_feed 37 = .ok (.invokevirtual 96, 3) := by decide +kernel
theorem dX9_feed_40 : decode cX9_feed 40 = .ok (.ireturn, 1) := by decide +kernel
theorem dX9_feed_41 : decode cX9_feed 41 = .ok (.iconst 0, 1) := by decide +kernel
theorem dX9_feed_42 : decode cX9_feed 42 = .ok (.istore 5, 2) := by decide +kernel
theorem dX9_feed_44 : decode cX9_feed 44 = .ok (.iload 5, 2) := by decide +kernel
theorem dX9_feed_46 : decode cX9_feed 46 = .ok (.iload_n 1, 1) := by decide +kernel
theorem dX9_feed_47 : decode cX9_feed 47 = .ok (.if_icmp .ge 40, 3) := by decide +kernel
theorem dX9_feed_50 : decode cX9_feed 50 = .ok (.aload_n 0, 1) := by decide +kernel
theorem dX9_feed_51 : decode cX9_feed 51 = .ok (.getfield 53, 3) := by decide +kernel
theorem dX9_feed_54 : decode cX9_feed 54 = .ok (.aload_n 0, 1) := by decide +kernel
theorem dX9_feed_55 : decode cX9_feed 55 = .ok (.getfield 139, 3) := by decide +kernel
theorem dX9_feed_58 : decode cX9_feed 58 = .ok (.lload_n 2, 1) := by decide +kernel
theorem dX9_feed_59 : decode cX9_feed 59 = .ok (.bipush 8, 2) := by decide +kernel
theorem dX9_feed_61 : decode cX9_feed 61 = .ok (.iload 5, 2) := by decide +kernel
theorem dX9_feed_63 : decode cX9_feed 63 = .ok (.imul, 1) := by decide +kernel
theorem dX9_feed_64 : decode cX9_feed 64 = .ok (.lshr, 1) := by decide +kernel
theorem dX9_feed_65 : decode cX9_feed 65 = .ok (.ldc2_w 142, 3) := by decide +kernel
theorem dX9_feed_68 : decode cX9_feed 68 = .ok (.land, 1) := by decide +kernel
theorem dX9_feed_69 : decode cX9_feed 69 = .ok (.l2i, 1) := by decide +kernel
theorem dX9_feed_70 : decode cX9_feed 70 = .ok (.iastore, 1) := by decide +kernel
theorem dX9_feed_71 : decode cX9_feed 71 = .ok (.aload_n 0, 1) := by decide +kernel
theorem dX9_feed_72 : decode cX9_feed 72 = .ok (.dup, 1) := by decide +kernel
theorem dX9_feed_73 : decode cX9_feed 73 = .ok (.getfield 139, 3) := by decide +kernel
theorem dX9_feed_76 : decode cX9_feed 76 = .ok (.iconst 1, 1) := by decide +kernel
theorem dX9_feed_77 : decode cX9_feed 77 = .ok (.iadd, 1) := by decide +kernel
theorem dX9_feed_78 : decode cX9_feed 78 = .ok (.putfield 139, 3) := by decide +kernel
theorem dX9_feed_81 : decode cX9_feed 81 = .ok (.iinc 5 1, 3) := by decide +kernel
theorem dX9_feed_84 : decode cX9_feed 84 = .ok (.goto (-40), 3) := by decide +kernel
theorem dX9_feed_87 : decode cX9_feed 87 = .ok (.aload_n 0, 1) := by decide +kernel
theorem dX9_feed_88 : decode cX9_feed 88 = .ok (.getfield 139, 3) := by decide +kernel
theorem dX9_feed_91 : decode cX9_feed 91 = .ok (.ireturn, 1) := by decide +kernel
theorem dX9_sign_0 : decode cX9_sign 0 = .ok (.aload_n 0, 1) := by decide +kernel
theorem dX9_sign_1 : decode cX9_sign 1 = .ok (.getfield 144, 3) := by decide +kernel
theorem dX9_sign_4 : decode cX9_sign 4 = .ok (.aload_n 0, 1) := by decide +kernel
theorem dX9_sign_5 : decode cX9_sign 5 = .ok (.getfield 139, 3) := by decide +kernel
theorem dX9_sign_8 : decode cX9_sign 8 = .ok (.if_icmp .ge 15, 3) := by decide +kernel
theorem dX9_sign_11 : decode cX9_sign 11 = .ok (.aload_n 0, 1) := by decide +kernel
theorem dX9_sign_12 : decode cX9_sign 12 = .ok (.getfield 53, 3) := by decide +kernel
theorem dX9_sign_15 : decode cX9_sign 15 = .ok (.aload_n 0, 1) := by decide +kernel
theorem dX9_sign_16 : decode cX9_sign 16 = .ok (.getfield 144, 3) := by decide +kernel
theorem dX9_sign_19 : decode cX9_sign 19 = .ok (.iaload, 1) := by decide +kernel
theorem dX9_sign_20 : decode cX9_sign 20 = .ok (.goto 4, 3) := by decide +kernel
theorem dX9_sign_23 : decode cX9_sign 23 = .ok (.iconst (-1), 1) := by decide +kernel
theorem dX9_sign_24 : decode cX9_sign 24 = .ok (.ireturn, 1) := by decide +kernel
theorem dX9_takes_0 : decode cX9_takes 0 = .ok (.aload_n 0, 1) := by decide +kernel
theorem dX9_takes_1 : decode cX9_takes 1 = .ok (.invokevirtual 147, 3) := by decide +kernel
theorem dX9_takes_4 : decode cX9_takes 4 = .ok (.iload_n 1, 1) := by decide +kernel
theorem dX9_takes_5 : decode cX9_takes 5 = .ok (.if_icmp .eq 5, 3) := by decide +kernel
theorem dX9_takes_8 : decode cX9_takes 8 = .ok (.iconst 0, 1) := by decide +kernel
theorem dX9_takes_9 : decode cX9_takes 9 = .ok (.ireturn, 1) := by decide +kernel
theorem dX9_takes_10 : decode cX9_takes 10 = .ok (.aload_n 0, 1) := by decide +kernel
theorem dX9_takes_11 : decode cX9_takes 11 = .ok (.dup, 1) := by decide +kernel
theorem dX9_takes_12 : decode cX9_takes 12 = .ok (.getfield 144, 3) := by decide +kernel
theorem dX9_takes_15 : decode cX9_takes 15 = .ok (.iconst 1, 1) := by decide +kernel
theorem dX9_takes_16 : decode cX9_takes 16 = .ok (.iadd, 1) := by decide +kernel
theorem dX9_takes_17 : decode cX9_takes 17 = .ok (.putfield 144, 3) := by decide +kernel
theorem dX9_takes_20 : decode cX9_takes 20 = .ok (.iconst 1, 1) := by decide +kernel
theorem dX9_takes_21 : decode cX9_takes 21 = .ok (.ireturn, 1) := by decide +kernel
theorem dX9_number_0 : decode cX9_number 0 = .ok (.aload_n 0, 1) := by decide +kernel
theorem dX9_number_1 : decode cX9_number 1 = .ok (.invokevirtual 147, 3) := by decide +kernel
theorem dX9_number_4 : decode cX9_number 4 = .ok (.bipush 48, 2) := by decide +kernel
theorem dX9_number_6 : decode cX9_number 6 = .ok (.bipush 57, 2) := by decide +kernel
theorem dX9_number_8 : decode cX9_number 8 = .ok (.invokestatic 108, 3) := by decide +kernel
theorem dX9_number_11 : decode cX9_number 11 = .ok (.ifCond .ne 5, 3) := by decide +kernel
theorem dX9_number_14 : decode cX9_number 14 = .ok (.iconst (-1), 1) := by decide +kernel
theorem dX9_number_15 : decode cX9_number 15 = .ok (.ireturn, 1) := by decide +kernel
theorem dX9_number_16 : decode cX9_number 16 = .ok (.aload_n 0, 1) := by decide +kernel
theorem dX9_number_17 : decode cX9_number 17 = .ok (.invokevirtual 147, 3) := by decide +kernel
theorem dX9_number_20 : decode cX9_number 20 = .ok (.bipush 48, 2) := by decide +kernel
theorem dX9_number_22 : decode cX9_number 22 = .ok (.isub, 1) := by decide +kernel
theorem dX9_number_23 : decode cX9_number 23 = .ok (.istore_n 2, 1) := by decide +kernel
theorem dX9_number_24 : decode cX9_number 24 = .ok (.aload_n 0, 1) := by decide +kernel
theorem dX9_number_25 : decode cX9_number 25 = .ok (.dup, 1) := by decide +kernel
theorem dX9_number_26 : decode cX9_number 26 = .ok (.getfield 144, 3) := by decide +kernel
theorem dX9_number_29 : decode cX9_number 29 = .ok (.iconst 1, 1) := by decide +kernel
theorem dX9_number_30 : decode cX9_number 30 = .ok (.iadd, 1) := by decide +kernel
theorem dX9_number_31 : decode cX9_number 31 = .ok (.putfield 144, 3) := by decide +kernel
theorem dX9_number_34 : decode cX9_number 34 = .ok (.iconst 1, 1) := by decide +kernel
theorem dX9_number_35 : decode cX9_number 35 = .ok (.istore_n 3, 1) := by decide +kernel
theorem dX9_number_36 : decode cX9_number 36 = .ok (.iload_n 3, 1) := by decide +kernel
theorem dX9_number_37 : decode cX9_number 37 = .ok (.iload_n 1, 1) := by decide +kernel
theorem dX9_number_38 : decode cX9_number 38 = .ok (.if_icmp .ge 50, 3) := by decide +kernel
theorem dX9_number_41 : decode cX9_number 41 = .ok (.iload_n 2, 1) := by decide +kernel
theorem dX9_number_42 : decode cX9_number 42 = .ok (.ifCond .le 46, 3) := by decide +kernel
theorem dX9_number_45 : decode cX9_number 45 = .ok (.aload_n 0, 1) := by decide +kernel
theorem dX9_number_46 : decode cX9_number 46 = .ok (.invokevirtual 147, 3) := by decide +kernel
theorem dX9_number_49 : decode cX9_number 49 = .ok (.bipush 48, 2) := by decide +kernel
theorem dX9_number_51 : decode cX9_number 51 = .ok (.bipush 57, 2) := by decide +kernel
theorem dX9_number_53 : decode cX9_number 53 = .ok (.invokestatic 108, 3) := by decide +kernel
theorem dX9_number_56 : decode cX9_number 56 = .ok (.ifCond .eq 32, 3) := by decide +kernel
theorem dX9_number_59 : decode cX9_number 59 = .ok (.bipush 10, 2) := by decide +kernel
theorem dX9_number_61 : decode cX9_number 61 = .ok (.iload_n 2, 1) := by decide +kernel
theorem dX9_number_62 : decode cX9_number 62 = .ok (.imul, 1) := by decide +kernel
theorem dX9_number_63 : decode cX9_number 63 = .ok (.aload_n 0, 1) := by decide +kernel
theorem dX9_number_64 : decode cX9_number 64 = .ok (.invokevirtual 147, 3) := by decide +kernel
theorem dX9_number_67 : decode cX9_number 67 = .ok (.iadd, 1) := by decide +kernel
theorem dX9_number_68 : decode cX9_number 68 = .ok (.bipush 48, 2) := by decide +kernel
theorem dX9_number_70 : decode cX9_number 70 = .ok (.isub, 1) := by decide +kernel
theorem dX9_number_71 : decode cX9_number 71 = .ok (.istore_n 2, 1) := by decide +kernel
theorem dX9_number_72 : decode cX9_number 72 = .ok (.aload_n 0, 1) := by decide +kernel
theorem dX9_number_73 : decode cX9_number 73 = .ok (.dup, 1) := by decide +kernel
theorem dX9_number_74 : decode cX9_number 74 = .ok (.getfield 144, 3) := by decide +kernel
theorem dX9_number_77 : decode cX9_number 77 = .ok (.iconst 1, 1) := by decide +kernel
theorem dX9_number_78 : decode cX9_number 78 = .ok (.iadd, 1) := by decide +kernel
theorem dX9_number_79 : decode cX9_number 79 = .ok (.putfield 144, 3) := by decide +kernel
theorem dX9_number_82 : decode cX9_number 82 = .ok (.iinc 3 1, 3) := by decide +kernel
theorem dX9_number_85 : decode cX9_number 85 = .ok (.goto (-49), 3) := by decide +kernel
theorem dX9_number_88 : decode cX9_number 88 = .ok (.iload_n 2, 1) := by decide +kernel
theorem dX9_number_89 : decode cX9_number 89 = .ok (.ireturn, 1) := by decide +kernel
theorem dX9_statement_0 : decode cX9_statement 0 = .ok (.aload_n 0, 1) := by decide +kernel
theorem dX9_statement_1 : decode cX9_statement 1 = .ok (.invokevirtual 147, 3) := by decide +kernel
theorem dX9_statement_4 : decode cX9_statement 4 = .ok (.istore_n 1, 1) := by decide +kernel
theorem dX9_statement_5 : decode cX9_statement 5 = .ok (.iload_n 1, 1) := by decide +kernel
theorem dX9_statement_6 : decode cX9_statement 6 = .ok (.bipush 110, 2) := by decide +kernel
theorem dX9_statement_8 : decode cX9_statement 8 = .ok (.if_icmp .eq 29, 3) := by decide +kernel
theorem dX9_statement_11 : decode cX9_statement 11 = .ok (.iload_n 1, 1) := by decide +kernel
theorem dX9_statement_12 : decode cX9_statement 12 = .ok (.bipush 99, 2) := by decide +kernel
theorem dX9_statement_14 : decode cX9_statement 14 = .ok (.if_icmp .eq 23, 3) := by decide +kernel
theorem dX9_statement_17 : decode cX9_statement 17 = .ok (.iload_n 1, 1) := by decide +kernel
theorem dX9_statement_18 : decode cX9_statement 18 = .ok (.bipush 119, 2) := by decide +kernel
theorem dX9_statement_20 : decode cX9_statement 20 = .ok (.if_icmp .eq 17, 3) := by decide +kernel
theorem dX9_statement_23 : decode cX9_statement 23 = .ok (.iload_n 1, 1) := by decide +kernel
theorem dX9_statement_24 : decode cX9_statement 24 = .ok (.bipush 112, 2) := by decide +kernel
theorem dX9_statement_26 : decode cX9_statement 26 = .ok (.if_icmp .eq 11, 3) := by decide +kernel
theorem dX9_statement_29 : decode cX9_statement 29 = .ok (.iload_n 1, 1) := by decide +kernel
theorem dX9_statement_30 : decode cX9_statement 30 = .ok (.bipush 102, 2) := by decide +kernel
theorem dX9_statement_32 : decode cX9_statement 32 = .ok (.if_icmp .eq 5, 3) := by decide +kernel
theorem dX9_statement_35 : decode cX9_statement 35 = .ok (.iconst 0, 1) := by decide +kernel
theorem dX9_statement_36 : decode cX9_statement 36 = .ok (.ireturn, 1) := by decide +kernel
theorem dX9_statement_37 : decode cX9_statement 37 = .ok (.aload_n 0, 1) := by decide +kernel
theorem dX9_statement_38 : decode cX9_statement 38 = .ok (.getfield 150, 3) := by decide +kernel
theorem dX9_statement_41 : decode cX9_statement 41 = .ok (.istore_n 2, 1) := by decide +kernel
theorem dX9_statement_42 : decode cX9_statement 42 = .ok (.aload_n 0, 1) := by decide +kernel
theorem dX9_statement_43 : decode cX9_statement 43 = .ok (.getfield 56, 3) := by decide +kernel
theorem dX9_statement_46 : decode cX9_statement 46 = .ok (.iload_n 2, 1) := by decide +kernel
theorem dX9_statement_47 : decode cX9_statement 47 = .ok (.iload_n 1, 1) := by decide +kernel
theorem dX9_statement_48 : decode cX9_statement 48 = .ok (.iastore, 1) := by decide +kernel
theorem dX9_statement_49 : decode cX9_statement 49 = .ok (.aload_n 0, 1) := by decide +kernel
theorem dX9_statement_50 : decode cX9_statement 50 = .ok (.getfield 59, 3) := by decide +kernel
theorem dX9_statement_53 : decode cX9_statement 53 = .ok (.iload_n 2, 1) := by decide +kernel
theorem dX9_statement_54 : decode cX9_statement 54 = .ok (.aload_n 0, 1) := by decide +kernel
theorem dX9_statement_55 : decode cX9_statement 55 = .ok (.getfield 144, 3) := by decide +kernel
theorem dX9_statement_58 : decode cX9_statement 58 = .ok (.iastore, 1) := by decide +kernel
theorem dX9_statement_59 : decode cX9_statement 59 = .ok (.aload_n 0, 1) := by decide +kernel
theorem dX9_statement_60 : decode cX9_statement 60 = .ok (.dup, 1) := by decide +kernel
theorem dX9_statement_61 : decode cX9_statement 61 = .ok (.getfield 144, 3) := by decide +kernel
theorem dX9_statement_64 : decode cX9_statement 64 = .ok (.iconst 1, 1) := by decide +kernel
theorem dX9_statement_65 : decode cX9_statement 65 = .ok (.iadd, 1) := by decide +kernel
theorem dX9_statement_66 : decode cX9_statement 66 = .ok (.putfield 144, 3) := by decide +kernel
theorem dX9_statement_69 : decode cX9_statement 69 = .ok (.aload_n 0, 1) := by decide +kernel
theorem dX9_statement_70 : decode cX9_statement 70 = .ok (.getfield 62, 3) := by decide +kernel
theorem dX9_statement_73 : decode cX9_statement 73 = .ok (.iload_n 2, 1) := by decide +kernel
theorem dX9_statement_74 : decode cX9_statement 74 = .ok (.aload_n 0, 1) := by decide +kernel
theorem dX9_statement_75 : decode cX9_statement 75 = .ok (.iload_n 1, 1) := by decide +kernel
theorem dX9_statement_76 : decode cX9_statement 76 = .ok (.bipush 112, 2) := by decide +kernel
theorem dX9_statement_78 : decode cX9_statement 78 = .ok (.if_icmp .eq 9, 3) := by decide +kernel
theorem dX9_statement_81 : decode cX9_statement 81 = .ok (.iload_n 1, 1) := by decide +kernel
theorem dX9_statement_82 : decode cX9_statement 82 = .ok (.bipush 102, 2) := by decide +kernel
theorem dX9_statement_84 : decode cX9_statement 84 = .ok (.if_icmp .ne 7, 3) := by decide +kernel
theorem dX9_statement_87 : decode cX9_statement 87 = .ok (.iconst 1, 1) := by decide +kernel
theorem dX9_statement_88 : decode cX9_statement 88 = .ok (.goto 4, 3) := by decide +kernel
theorem dX9_statement_91 : decode cX9_statement 91 = .ok (.iconst 3, 1) := by decide +kernel
theorem dX9_statement_92 : decode cX9_statement 92 = .ok (.invokevirtual 153, 3) := by decide +kernel
theorem dX9_statement_95 : decode cX9_statement 95 = .ok (.iastore, 1) := by decide +kernel
theorem dX9_statement_96 : decode cX9_statement 96 = .ok (.aload_n 0, 1) := by decide +kernel
theorem dX9_statement_97 : decode cX9_statement 97 = .ok (.getfield 62, 3) := by decide +kernel
theorem dX9_statement_100 : decode cX9_statement 100 = .ok (.iload_n 2, 1) := by decide +kernel
theorem dX9_statement_101 : decode cX9_statement 101 = .ok (.iaload, 1) := by decide +kernel
theorem dX9_statement_102 : decode cX9_statement 102 = .ok (.ifCond .ge 5, 3) := by decide +kernel
theorem dX9_statement_105 : decode cX9_statement 105 = .ok (.iconst 0, 1) := by decide +kernel
theorem dX9_statement_106 : decode cX9_statement 106 = .ok (.ireturn, 1) := by decide +kernel
theorem dX9_statement_107 : decode cX9_statement 107 = .ok (.iload_n 1, 1) := by decide +kernel
theorem dX9_statement_108 : decode cX9_statement 108 = .ok (.bipush 119, 2) := by decide +kernel
theorem dX9_statement_110 : decode cX9_statement 110 = .ok (.if_icmp .ne 36, 3) := by decide +kernel
theorem dX9_statement_113 : decode cX9_statement 113 = .ok (.aload_n 0, 1) := by decide +kernel
theorem dX9_statement_114 : decode cX9_statement 114 = .ok (.bipush 44, 2) := by decide +kernel
theorem dX9_statement_116 : decode cX9_statement 116 = .ok (.invokevirtual 156, 3) := by decide +kernel
theorem dX9_statement_119 : decode cX9_statement 119 = .ok (.ifCond .ne 5, 3) := by decide +kernel
theorem dX9_statement_122 : decode cX9_statement 122 = .ok (.iconst 0, 1) := by decide +kernel
theorem dX9_statement_123 : decode cX9_statement 123 = .ok (.ireturn, 1) := by decide +kernel
theorem dX9_statement_124 : decode cX9_statement 124 = .ok (.aload_n 0, 1) := by decide +kernel
theorem dX9_statement_125 : decode cX9_statement 125 = .ok (.getfield 65, 3) := by decide +kernel
theorem dX9_statement_128 : decode cX9_statement 128 = .ok (.iload_n 2, 1) := by decide +kernel
theorem dX9_statement_129 : decode cX9_statement 129 = .ok (.aload_n 0, 1) := by decide +kernel
theorem dX9_statement_130 : decode cX9_statement 130 = .ok (.iconst 1, 1) := by decide +kernel
theorem dX9_statement_131 : decode cX9_statement 131 = .ok (.invokevirtual 153, 3) := by decide +kernel
theorem dX9_statement_134 : decode cX9_statement 134 = .ok (.iastore, 1) := by decide +kernel
theorem dX9_statement_135 : decode cX9_statement 135 = .ok (.aload_n 0, 1) := by decide +kernel
theorem dX9_statement_136 : decode cX9_statement 136 = .ok (.getfield 65, 3) := by decide +kernel
theorem dX9_statement_139 : decode cX9_statement 139 = .ok (.iload_n 2, 1) := by decide +kernel
theorem dX9_statement_140 : decode cX9_statement 140 = .ok (.iaload, 1) := by decide +kernel
theorem dX9_statement_141 : decode cX9_statement 141 = .ok (.ifCond .ge 5, 3) := by decide +kernel
theorem dX9_statement_144 : decode cX9_statement 144 = .ok (.iconst 0, 1) := by decide +kernel
theorem dX9_statement_145 : decode cX9_statement 145 = .ok (.ireturn, 1) := by decide +kernel
theorem dX9_statement_146 : decode cX9_statement 146 = .ok (.iload_n 1, 1) := by decide +kernel
theorem dX9_statement_147 : decode cX9_statement 147 = .ok (.bipush 119, 2) := by decide +kernel
theorem dX9_statement_149 : decode cX9_statement 149 = .ok (.if_icmp .eq 9, 3) := by decide +kernel
theorem dX9_statement_152 : decode cX9_statement 152 = .ok (.iload_n 1, 1) := by decide +kernel
theorem dX9_statement_153 : decode cX9_statement 153 = .ok (.bipush 112, 2) := by decide +kernel
theorem dX9_statement_155 : decode cX9_statement 155 = .ok (.if_icmp .ne 36, 3) := by decide +kernel
theorem dX9_statement_158 : decode cX9_statement 158 = .ok (.aload_n 0, 1) := by decide +kernel
theorem dX9_statement_159 : decode cX9_statement 159 = .ok (.bipush 44, 2) := by decide +kernel
theorem dX9_statement_161 : decode cX9_statement 161 = .ok (.invokevirtual 156, 3) := by decide +kernel
theorem dX9_statement_164 : decode cX9_statement 164 = .ok (.ifCond .ne 5, 3) := by decide +kernel
theorem dX9_statement_167 : decode cX9_statement 167 = .ok (.iconst 0, 1) := by decide +kernel
theorem dX9_statement_168 : decode cX9_statement 168 = .ok (.ireturn, 1) := by decide +kernel
theorem dX9_statement_169 : decode cX9_statement 169 = .ok (.aload_n 0, 1) := by decide +kernel
theorem dX9_statement_170 : decode cX9_statement 170 = .ok (.getfield 68, 3) := by decide +kernel
theorem dX9_statement_173 : decode cX9_statement 173 = .ok (.iload_n 2, 1) := by decide +kernel
theorem dX9_statement_174 : decode cX9_statement 174 = .ok (.aload_n 0, 1) := by decide +kernel
theorem dX9_statement_175 : decode cX9_statement 175 = .ok (.iconst 3, 1) := by decide +kernel
theorem dX9_statement_176 : decode cX9_statement 176 = .ok (.invokevirtual 153, 3) := by decide +kernel
theorem dX9_statement_179 : decode cX9_statement 179 = .ok (.iastore, 1) := by decide +kernel
theorem dX9_statement_180 : decode cX9_statement 180 = .ok (.aload_n 0, 1) := by decide +kernel
theorem dX9_statement_181 : decode cX9_statement 181 = .ok (.getfield 68, 3) := by decide +kernel
theorem dX9_statement_184 : decode cX9_statement 184 = .ok (.iload_n 2, 1) := by decide +kernel
theorem dX9_statement_185 : decode cX9_statement 185 = .ok (.iaload, 1) := by decide +kernel
theorem dX9_statement_186 : decode cX9_statement 186 = .ok (.ifCond .ge 5, 3) := by decide +kernel
theorem dX9_statement_189 : decode cX9_statement 189 = .ok (.iconst 0, 1) := by decide +kernel
theorem dX9_statement_190 : decode cX9_statement 190 = .ok (.ireturn, 1) := by decide +kernel
theorem dX9_statement_191 : decode cX9_statement 191 = .ok (.aload_n 0, 1) := by decide +kernel
theorem dX9_statement_192 : decode cX9_statement 192 = .ok (.bipush 59, 2) := by decide +kernel
theorem dX9_statement_194 : decode cX9_statement 194 = .ok (.invokevirtual 156, 3) := by decide +kernel
theorem dX9_statement_197 : decode cX9_statement 197 = .ok (.ireturn, 1) := by decide +kernel
theorem dX9_comes_0 : decode cX9_comes 0 = .ok (.aload_n 0, 1) := by decide +kernel
theorem dX9_comes_1 : decode cX9_comes 1 = .ok (.getfield 62, 3) := by decide +kernel
theorem dX9_comes_4 : decode cX9_comes 4 = .ok (.iload_n 1, 1) := by decide +kernel
theorem dX9_comes_5 : decode cX9_comes 5 = .ok (.iaload, 1) := by decide +kernel
theorem dX9_comes_6 : decode cX9_comes 6 = .ok (.istore_n 2, 1) := by decide +kernel
theorem dX9_comes_7 : decode cX9_comes 7 = .ok (.aload_n 0, 1) := by decide +kernel
theorem dX9_comes_8 : decode cX9_comes 8 = .ok (.getfield 56, 3) := by decide +kernel
theorem dX9_comes_11 : decode cX9_comes 11 = .ok (.iload_n 1, 1) := by decide +kernel
theorem dX9_comes_12 : decode cX9_comes 12 = .ok (.iaload, 1) := by decide +kernel
theorem dX9_comes_13 : decode cX9_comes 13 = .ok (.lookupswitch 223 #[(99, 76), (110, 43), (112, 184), (119, 112)], 43) := by decide +kernel
theorem dX9_comes_56 : decode cX9_comes 56 = .ok (.iload_n 2, 1) := by decide +kernel
theorem dX9_comes_57 : decode cX9_comes 57 = .ok (.iconst 4, 1) := by decide +kernel
theorem dX9_comes_58 : decode cX9_comes 58 = .ok (.bipush 60, 2) := by decide +kernel
theorem dX9_comes_60 : decode cX9_comes 60 = .ok (.invokestatic 108, 3) := by decide +kernel
theorem dX9_comes_63 : decode cX9_comes 63 = .ok (.ifCond .eq 17, 3) := by decide +kernel
theorem dX9_comes_66 : decode cX9_comes 66 = .ok (.aload_n 0, 1) := by decide +kernel
theorem dX9_comes_67 : decode cX9_comes 67 = .ok (.getfield 86, 3) := by decide +kernel
theorem dX9_comes_70 : decode cX9_comes 70 = .ok (.ifCond .gt 10, 3) := by decide +kernel
theorem dX9_comes_73 : decode cX9_comes 73 = .ok (.aload_n 0, 1) := by decide +kernel
theorem dX9_comes_74 : decode cX9_comes 74 = .ok (.invokevirtual 100, 3) := by decide +kernel
theorem dX9_comes_77 : decode cX9_comes 77 = .ok (.ifCond .le 5, 3) := by decide +kernel
theorem dX9_comes_80 : decode cX9_comes 80 = .ok (.iconst 0, 1) := by decide +kernel
theorem dX9_comes_81 : decode cX9_comes 81 = .ok (.ireturn, 1) := by decide +kernel
theorem dX9_comes_82 : decode cX9_comes 82 = .ok (.aload_n 0, 1) := by decide +kernel
theorem dX9_comes_83 : decode cX9_comes 83 = .ok (.iload_n 2, 1) := by decide +kernel
theorem dX9_comes_84 : decode cX9_comes 84 = .ok (.putfield 43, 3) := by decide +kernel
theorem dX9_comes_87 : decode cX9_comes 87 = .ok (.iconst 1, 1) := by decide +kernel
theorem dX9_comes_88 : decode cX9_comes 88 = .ok (.ireturn, 1) := by decide +kernel
theorem dX9_comes_89 : decode cX9_comes 89 = .ok (.aload_n 0, 1) := by decide +kernel
theorem dX9_comes_90 : decode cX9_comes 90 = .ok (.iload_n 2, 1) := by decide +kernel
theorem dX9_comes_91 : decode cX9_comes 91 = .ok (.invokevirtual 92, 3) := by decide +kernel
theorem dX9_comes_94 : decode cX9_comes 94 = .ok (.ifCond .eq 22, 3) := by decide +kernel
theorem dX9_comes_97 : decode cX9_comes 97 = .ok (.aload_n 0, 1) := by decide +kernel
theorem dX9_comes_98 : decode cX9_comes 98 = .ok (.getfield 13, 3) := by decide +kernel
theorem dX9_comes_101 : decode cX9_comes 101 = .ok (.iload_n 2, 1) := by decide +kernel
theorem dX9_comes_102 : decode cX9_comes 102 = .ok (.iaload, 1) := by decide +kernel
theorem dX9_comes_103 : decode cX9_comes 103 = .ok (.iconst 1, 1) := by decide +kernel
theorem dX9_comes_104 : decode cX9_comes 104 = .ok (.if_icmp .eq 12, 3) := by decide +kernel
theorem dX9_comes_107 : decode cX9_comes 107 = .ok (.aload_n 0, 1) := by decide +kernel
theorem dX9_comes_108 : decode cX9_comes 108 = .ok (.invokevirtual 100, 3) := by decide +kernel
theorem dX9_comes_111 : decode cX9_comes 111 = .ok (.bipush 11, 2) := by decide +kernel
theorem dX9_comes_113 : decode cX9_comes 113 = .ok (.if_icmp .ne 5, 3) := by decide +kernel
theorem dX9_comes_116 : decode cX9_comes 116 = .ok (.iconst 0, 1) := by decide +kernel
theorem dX9_comes_117 : decode cX9_comes 117 = .ok (.ireturn, 1) := by decide +kernel
theorem dX9_comes_118 : decode cX9_comes 118 = .ok (.aload_n 0, 1) := by decide +kernel
theorem dX9_comes_119 : decode cX9_comes 119 = .ok (.iload_n 2, 1) := by decide +kernel
theorem dX9_comes_120 : decode cX9_comes 120 = .ok (.invokevirtual 104, 3) := by decide +kernel
theorem dX9_comes_123 : decode cX9_comes 123 = .ok (.iconst 1, 1) := by decide +kernel
theorem dX9_comes_124 : decode cX9_comes 124 = .ok (.ireturn, 1) := by decide +kernel
theorem dX9_comes_125 : decode cX9_comes 125 = .ok (.aload_n 0, 1) := by decide +kernel
theorem dX9_comes_126 : decode cX9_comes 126 = .ok (.iload_n 2, 1) := by decide +kernel
theorem dX9_comes_127 : decode cX9_comes 127 = .ok (.invokevirtual 92, 3) := by decide +kernel
theorem dX9_comes_130 : decode cX9_comes 130 = .ok (.ifCond .eq 46, 3) := by decide +kernel
theorem dX9_comes_133 : decode cX9_comes 133 = .ok (.aload_n 0, 1) := by decide +kernel
theorem dX9_comes_134 : decode cX9_comes 134 = .ok (.getfield 65, 3) := by decide +kernel
theorem dX9_comes_137 : decode cX9_comes 137 = .ok (.iload_n 1, 1) := by decide +kernel
theorem dX9_comes_138 : decode cX9_comes 138 = .ok (.iaload, 1) := by decide +kernel
theorem dX9_comes_139 : decode cX9_comes 139 = .ok (.bipush 6, 2) := by decide +kernel
theorem dX9_comes_141 : decode cX9_comes 141 = .ok (.if_icmp .gt 35, 3) := by decide +kernel
theorem dX9_comes_144 : decode cX9_comes 144 = .ok (.aload_n 0, 1) := by decide +kernel
theorem dX9_comes_145 : decode cX9_comes 145 = .ok (.getfield 68, 3) := by decide +kernel
theorem dX9_comes_148 : decode cX9_comes 148 = .ok (.iload_n 1, 1) := by decide +kernel
theorem dX9_comes_149 : decode cX9_comes 149 = .ok (.iaload, 1) := by decide +kernel
theorem dX9_comes_150 : decode cX9_comes 150 = .ok (.iconst 1, 1) := by decide +kernel
theorem dX9_comes_151 : decode cX9_comes 151 = .ok (.bipush 99, 2) := by decide +kernel
theorem dX9_comes_153 : decode cX9_comes 153 = .ok (.invokestatic 108, 3) := by decide +kernel
theorem dX9_comes_156 : decode cX9_comes 156 = .ok (.ifCond .eq 20, 3) := by decide +kernel
theorem dX9_comes_159 : decode cX9_comes 159 = .ok (.aload_n 0, 1) := by decide +kernel
theorem dX9_comes_160 : decode cX9_comes 160 = .ok (.getfield 86, 3) := by decide +kernel
theorem dX9_comes_163 : decode cX9_comes 163 = .ok (.bipush 12, 2) := by decide +kernel
theorem dX9_comes_165 : decode cX9_comes 165 = .ok (.if_icmp .eq 11, 3) := by decide +kernel
theorem dX9_comes_168 : decode cX9_comes 168 = .ok (.aload_n 0, 1) := by decide +kernel
theorem dX9_comes_169 : decode cX9_comes 169 = .ok (.iload_n 2, 1) := by decide +kernel
theorem dX9_comes_170 : decode cX9_comes 170 = .ok (.invokevirtual 116, 3) := by decide +kernel
theorem dX9_comes_173 : decode cX9_comes 173 = .ok (.ifCond .eq 5, 3) := by decide +kernel
theorem dX9_comes_176 : decode cX9_comes 176 = .ok (.iconst 0, 1) := by decide +kernel
theorem dX9_comes_177 : decode cX9_comes 177 = .ok (.ireturn, 1) := by decide +kernel
theorem dX9_comes_178 : decode cX9_comes 178 = .ok (.aload_n 0, 1) := by decide +kernel
theorem dX9_comes_179 : decode cX9_comes 179 = .ok (.iload_n 2, 1) := by decide +kernel
theorem dX9_comes_180 : decode cX9_comes 180 = .ok (.aload_n 0, 1) := by decide +kernel
theorem dX9_comes_181 : decode cX9_comes 181 = .ok (.getfield 65, 3) := by decide +kernel
theorem dX9_comes_184 : decode cX9_comes 184 = .ok (.iload_n 1, 1) := by decide +kernel
theorem dX9_comes_185 : decode cX9_comes 185 = .ok (.iaload, 1) := by decide +kernel
theorem dX9_comes_186 : decode cX9_comes 186 = .ok (.aload_n 0, 1) := by decide +kernel
theorem dX9_comes_187 : decode cX9_comes 187 = .ok (.getfield 68, 3) := by decide +kernel
theorem dX9_comes_190 : decode cX9_comes 190 = .ok (.iload_n 1, 1) := by decide +kernel
theorem dX9_comes_191 : decode cX9_comes 191 = .ok (.iaload, 1) := by decide +kernel
theorem dX9_comes_192 : decode cX9_comes 192 = .ok (.invokevirtual 119, 3) := by decide +kernel
theorem dX9_comes_195 : decode cX9_comes 195 = .ok (.iconst 1, 1) := by decide +kernel
theorem dX9_comes_196 : decode cX9_comes 196 = .ok (.ireturn, 1) := by decide +kernel
theorem dX9_comes_197 : decode cX9_comes 197 = .ok (.iload_n 2, 1) := by decide +kernel
theorem dX9_comes_198 : decode cX9_comes 198 = .ok (.iconst 4, 1) := by decide +kernel
theorem dX9_comes_199 : decode cX9_comes 199 = .ok (.if_icmp .gt 18, 3) := by decide +kernel
theorem dX9_comes_202 : decode cX9_comes 202 = .ok (.aload_n 0, 1) := by decide +kernel
theorem dX9_comes_203 : decode cX9_comes 203 = .ok (.getfield 68, 3) := by decide +kernel
theorem dX9_comes_206 : decode cX9_comes 206 = .ok (.iload_n 1, 1) := by decide +kernel
theorem dX9_comes_207 : decode cX9_comes 207 = .ok (.iaload, 1) := by decide +kernel
theorem dX9_comes_208 : decode cX9_comes 208 = .ok (.iconst 1, 1) := by decide +kernel
theorem dX9_comes_209 : decode cX9_comes 209 = .ok (.bipush 99, 2) := by decide +kernel
theorem dX9_comes_211 : decode cX9_comes 211 = .ok (.invokestatic 108, 3) := by decide +kernel
theorem dX9_comes_214 : decode cX9_comes 214 = .ok (.ifCond .ne 5, 3) := by decide +kernel
theorem dX9_comes_217 : decode cX9_comes 217 = .ok (.iconst 0, 1) := by decide +kernel
theorem dX9_comes_218 : decode cX9_comes 218 = .ok (.ireturn, 1) := by decide +kernel
theorem dX9_comes_219 : decode cX9_comes 219 = .ok (.aload_n 0, 1) := by decide +kernel
theorem dX9_comes_220 : decode cX9_comes 220 = .ok (.iload_n 2, 1) := by decide +kernel
theorem dX9_comes_221 : decode cX9_comes 221 = .ok (.putfield 126, 3) := by decide +kernel
theorem dX9_comes_224 : decode cX9_comes 224 = .ok (.aload_n 0, 1) := by decide +kernel
theorem dX9_comes_225 : decode cX9_comes 225 = .ok (.aload_n 0, 1) := by decide +kernel
theorem dX9_comes_226 : decode cX9_comes 226 = .ok (.getfield 68, 3) := by decide +kernel
theorem dX9_comes_229 : decode cX9_comes 229 = .ok (.iload_n 1, 1) := by decide +kernel
theorem dX9_comes_230 : decode cX9_comes 230 = .ok (.iaload, 1) := by decide +kernel
theorem dX9_comes_231 : decode cX9_comes 231 = .ok (.putfield 47, 3) := by decide +kernel
theorem dX9_comes_234 : decode cX9_comes 234 = .ok (.iconst 1, 1) := by decide +kernel
theorem dX9_comes_235 : decode cX9_comes 235 = .ok (.ireturn, 1) := by decide +kernel
theorem dX9_comes_236 : decode cX9_comes 236 = .ok (.iload_n 2, 1) := by decide +kernel
theorem dX9_comes_237 : decode cX9_comes 237 = .ok (.iconst 2, 1) := by decide +kernel
theorem dX9_comes_238 : decode cX9_comes 238 = .ok (.if_icmp .le 5, 3) := by decide +kernel
theorem dX9_comes_241 : decode cX9_comes 241 = .ok (.iconst 0, 1) := by decide +kernel
theorem dX9_comes_242 : decode cX9_comes 242 = .ok (.ireturn, 1) := by decide +kernel
theorem dX9_comes_243 : decode cX9_comes 243 = .ok (.aload_n 0, 1) := by decide +kernel
theorem dX9_comes_244 : decode cX9_comes 244 = .ok (.iload_n 2, 1) := by decide +kernel
theorem dX9_comes_245 : decode cX9_comes 245 = .ok (.putfield 129, 3) := by decide +kernel
theorem dX9_comes_248 : decode cX9_comes 248 = .ok (.iconst 1, 1) := by decide +kernel
theorem dX9_comes_249 : decode cX9_comes 249 = .ok (.ireturn, 1) := by decide +kernel
theorem dX9_party_0 : decode cX9_party 0 = .ok (.aload_n 0, 1) := by decide +kernel
theorem dX9_party_1 : decode cX9_party 1 = .ok (.iconst 0, 1) := by decide +kernel
theorem dX9_party_2 : decode cX9_party 2 = .ok (.putfield 144, 3) := by decide +kernel
theorem dX9_party_5 : decode cX9_party 5 = .ok (.aload_n 0, 1) := by decide +kernel
theorem dX9_party_6 : decode cX9_party 6 = .ok (.iconst 0, 1) := by decide +kernel
theorem dX9_party_7 : decode cX9_party 7 = .ok (.putfield 150, 3) := by decide +kernel
theorem dX9_party_10 : decode cX9_party 10 = .ok (.iconst 1, 1) := by decide +kernel
theorem dX9_party_11 : decode cX9_party 11 = .ok (.istore_n 1, 1) := by decide +kernel
theorem dX9_party_12 : decode cX9_party 12 = .ok (.iload_n 1, 1) := by decide +kernel
theorem dX9_party_13 : decode cX9_party 13 = .ok (.ifCond .eq 47, 3) := by decide +kernel
theorem dX9_party_16 : decode cX9_party 16 = .ok (.aload_n 0, 1) := by decide +kernel
theorem dX9_party_17 : decode cX9_party 17 = .ok (.getfield 144, 3) := by decide +kernel
theorem dX9_party_20 : decode cX9_party 20 = .ok (.aload_n 0, 1) := by decide +kernel
theorem dX9_party_21 : decode cX9_party 21 = .ok (.getfield 139, 3) := by decide +kernel
theorem dX9_party_24 : decode cX9_party 24 = .ok (.if_icmp .lt 10, 3) := by decide +kernel
theorem dX9_party_27 : decode cX9_party 27 = .ok (.aload_n 0, 1) := by decide +kernel
theorem dX9_party_28 : decode cX9_party 28 = .ok (.getfield 150, 3) := by decide +kernel
theorem dX9_party_31 : decode cX9_party 31 = .ok (.ifCond .ne 29, 3) := by decide +kernel
theorem dX9_party_34 : decode cX9_party 34 = .ok (.aload_n 0, 1) := by decide +kernel
theorem dX9_party_35 : decode cX9_party 35 = .ok (.invokevirtual 159, 3) := by decide +kernel
theorem dX9_party_38 : decode cX9_party 38 = .ok (.istore_n 1, 1) := by decide +kernel
theorem dX9_party_39 : decode cX9_party 39 = .ok (.aload_n 0, 1) := by decide +kernel
theorem dX9_party_40 : decode cX9_party 40 = .ok (.dup, 1) := by decide +kernel
theorem dX9_party_41 : decode cX9_party 41 = .ok (.getfield 150, 3) := by decide +kernel
theorem dX9_party_44 : decode cX9_party 44 = .ok (.iload_n 1, 1) := by decide +kernel
theorem dX9_party_45 : decode cX9_party 45 = .ok (.ifCond .eq 7, 3) := by decide +kernel
theorem dX9_party_48 : decode cX9_party 48 = .ok (.iconst 1, 1) := by decide +kernel
theorem dX9_party_49 : decode cX9_party 49 = .ok (.goto 4, 3) := by decide +kernel
theorem dX9_party_52 : decode cX9_party 52 = .ok (.iconst 0, 1) := by decide +kernel
theorem dX9_party_53 : decode cX9_party 53 = .ok (.iadd, 1) := by decide +kernel
theorem dX9_party_54 : decode cX9_party 54 = .ok (.putfield 150, 3) := by decide +kernel
theorem dX9_party_57 : decode cX9_party 57 = .ok (.goto (-45), 3) := by decide +kernel
theorem dX9_party_60 : decode cX9_party 60 = .ok (.aload_n 0, 1) := by decide +kernel
theorem dX9_party_61 : decode cX9_party 61 = .ok (.iconst 0, 1) := by decide +kernel
theorem dX9_party_62 : decode cX9_party 62 = .ok (.putfield 139, 3) := by decide +kernel
theorem dX9_party_65 : decode cX9_party 65 = .ok (.iload_n 1, 1) := by decide +kernel
theorem dX9_party_66 : decode cX9_party 66 = .ok (.ifCond .ne 12, 3) := by decide +kernel
theorem dX9_party_69 : decode cX9_party 69 = .ok (.sipush (-1000), 3) := by decide +kernel
theorem dX9_party_72 : decode cX9_party 72 = .ok (.aload_n 0, 1) := by decide +kernel
theorem dX9_party_73 : decode cX9_party 73 = .ok (.getfield 144, 3) := by decide +kernel
theorem dX9_party_76 : decode cX9_party 76 = .ok (.isub, 1) := by decide +kernel
theorem dX9_party_77 : decode cX9_party 77 = .ok (.ireturn, 1) := by decide +kernel
theorem dX9_party_78 : decode cX9_party 78 = .ok (.aload_n 0, 1) := by decide +kernel
theorem dX9_party_79 : decode cX9_party 79 = .ok (.iconst 1, 1) := by decide +kernel
theorem dX9_party_80 : decode cX9_party 80 = .ok (.iconst 1, 1) := by decide +kernel
theorem dX9_party_81 : decode cX9_party 81 = .ok (.invokevirtual 163, 3) := by decide +kernel
theorem dX9_party_84 : decode cX9_party 84 = .ok (.iconst 0, 1) := by decide +kernel
theorem dX9_party_85 : decode cX9_party 85 = .ok (.istore_n 2, 1) := by decide +kernel
theorem dX9_party_86 : decode cX9_party 86 = .ok (.iload_n 2, 1) := by decide +kernel
theorem dX9_party_87 : decode cX9_party 87 = .ok (.aload_n 0, 1) := by decide +kernel
theorem dX9_party_88 : decode cX9_party 88 = .ok (.getfield 150, 3) := by decide +kernel
theorem dX9_party_91 : decode cX9_party 91 = .ok (.if_icmp .ge 37, 3) := by decide +kernel
theorem dX9_party_94 : decode cX9_party 94 = .ok (.aload_n 0, 1) := by decide +kernel
theorem dX9_party_95 : decode cX9_party 95 = .ok (.iload_n 2, 1) := by decide +kernel
theorem dX9_party_96 : decode cX9_party 96 = .ok (.invokevirtual 167, 3) := by decide +kernel
theorem dX9_party_99 : decode cX9_party 99 = .ok (.ifCond .eq 6, 3) := by decide +kernel
theorem dX9_party_102 : decode cX9_party 102 = .ok (.goto 20, 3) := by decide +kernel
theorem dX9_party_105 : decode cX9_party 105 = .ok (.aload_n 0, 1) := by decide +kernel
theorem dX9_party_106 : decode cX9_party 106 = .ok (.iconst 1, 1) := by decide +kernel
theorem dX9_party_107 : decode cX9_party 107 = .ok (.iconst 0, 1) := by decide +kernel
theorem dX9_party_108 : decode cX9_party 108 = .ok (.invokevirtual 163, 3) := by decide +kernel
theorem dX9_party_111 : decode cX9_party 111 = .ok (.sipush (-2000), 3) := by decide +kernel
theorem dX9_party_114 : decode cX9_party 114 = .ok (.aload_n 0, 1) := by decide +kernel
theorem dX9_party_115 : decode cX9_party 115 = .ok (.getfield 59, 3) := by decide +kernel
theorem dX9_party_118 : decode cX9_party 118 = .ok (.iload_n 2, 1) := by decide +kernel
theorem dX9_party_119 : decode cX9_party 119 = .ok (.iaload, 1) := by decide +kernel
theorem dX9_party_120 : decode cX9_party 120 = .ok (.isub, 1) := by decide +kernel
theorem dX9_party_121 : decode cX9_party 121 = .ok (.ireturn, 1) := by decide +kernel
theorem dX9_party_122 : decode cX9_party 122 = .ok (.iinc 2 1, 3) := by decide +kernel
theorem dX9_party_125 : decode cX9_party 125 = .ok (.goto (-39), 3) := by decide +kernel
theorem dX9_party_128 : decode cX9_party 128 = .ok (.aload_n 0, 1) := by decide +kernel
theorem dX9_party_129 : decode cX9_party 129 = .ok (.getfield 150, 3) := by decide +kernel
theorem dX9_party_132 : decode cX9_party 132 = .ok (.ireturn, 1) := by decide +kernel
theorem dX9_passes_0 : decode cX9_passes 0 = .ok (.iconst 0, 1) := by decide +kernel
theorem dX9_passes_1 : decode cX9_passes 1 = .ok (.istore_n 2, 1) := by decide +kernel
theorem dX9_passes_2 : decode cX9_passes 2 = .ok (.iload_n 2, 1) := by decide +kernel
theorem dX9_passes_3 : decode cX9_passes 3 = .ok (.aload_n 1, 1) := by decide +kernel
theorem dX9_passes_4 : decode cX9_passes 4 = .ok (.arraylength, 1) := by decide +kernel
theorem dX9_passes_5 : decode cX9_passes 5 = .ok (.if_icmp .ge 53, 3) := by decide +kernel
theorem dX9_passes_8 : decode cX9_passes 8 = .ok (.aload_n 0, 1) := by decide +kernel
theorem dX9_passes_9 : decode cX9_passes 9 = .ok (.getfield 170, 3) := by decide +kernel
theorem dX9_passes_12 : decode cX9_passes 12 = .ok (.ifCond .eq 18, 3) := by decide +kernel
theorem dX9_passes_15 : decode cX9_passes 15 = .ok (.aload_n 0, 1) := by decide +kernel
theorem dX9_passes_16 : decode cX9_passes 16 = .ok (.getfield 71, 3) := by decide +kernel
theorem dX9_passes_19 : decode cX9_passes 19 = .ok (.aload_n 0, 1) := by decide +kernel
theorem dX9_passes_20 : decode cX9_passes 20 = .ok (.getfield 174, 3) := by decide +kernel
theorem dX9_passes_23 : decode cX9_passes 23 = .ok (.aload_n 1, 1) := by decide +kernel
theorem dX9_passes_24 : decode cX9_passes 24 = .ok (.iload_n 2, 1) := by decide +kernel
theorem dX9_passes_25 : decode cX9_passes 25 = .ok (.iaload, 1) := by decide +kernel
theorem dX9_passes_26 : decode cX9_passes 26 = .ok (.iastore, 1) := by decide +kernel
theorem dX9_passes_27 : decode cX9_passes 27 = .ok (.goto 15, 3) := by decide +kernel
theorem dX9_passes_30 : decode cX9_passes 30 = .ok (.aload_n 1, 1) := by decide +kernel
theorem dX9_passes_31 : decode cX9_passes 31 = .ok (.iload_n 2, 1) := by decide +kernel
theorem dX9_passes_32 : decode cX9_passes 32 = .ok (.aload_n 0, 1) := by decide +kernel
theorem dX9_passes_33 : decode cX9_passes 33 = .ok (.getfield 71, 3) := by decide +kernel
theorem dX9_passes_36 : decode cX9_passes 36 = .ok (.aload_n 0, 1) := by decide +kernel
theorem dX9_passes_37 : decode cX9_passes 37 = .ok (.getfield 174, 3) := by decide +kernel
theorem dX9_passes_40 : decode cX9_passes 40 = .ok (.iaload, 1) := by decide +kernel
theorem dX9_passes_41 : decode cX9_passes 41 = .ok (.iastore, 1) := by decide +kernel
theorem dX9_passes_42 : decode cX9_passes 42 = .ok (.aload_n 0, 1) := by decide +kernel
theorem dX9_passes_43 : decode cX9_passes 43 = .ok (.dup, 1) := by decide +kernel
theorem dX9_passes_44 : decode cX9_passes 44 = .ok (.getfield 174, 3) := by decide +kernel
theorem dX9_passes_47 : decode cX9_passes 47 = .ok (.iconst 1, 1) := by decide +kernel
theorem dX9_passes_48 : decode cX9_passes 48 = .ok (.iadd, 1) := by decide +kernel
theorem dX9_passes_49 : decode cX9_passes 49 = .ok (.putfield 174, 3) := by decide +kernel
theorem dX9_passes_52 : decode cX9_passes 52 = .ok (.iinc 2 1, 3) := by decide +kernel
theorem dX9_passes_55 : decode cX9_passes 55 = .ok (.goto (-53), 3) := by decide +kernel
theorem dX9_passes_58 : decode cX9_passes 58 = .ok (.return_, 1) := by decide +kernel
theorem dX9_passOne_0 : decode cX9_passOne 0 = .ok (.aload_n 0, 1) := by decide +kernel
theorem dX9_passOne_1 : decode cX9_passOne 1 = .ok (.getfield 170, 3) := by decide +kernel
theorem dX9_passOne_4 : decode cX9_passOne 4 = .ok (.ifCond .eq 7, 3) := by decide +kernel
theorem dX9_passOne_7 : decode cX9_passOne 7 = .ok (.iload_n 1, 1) := by decide +kernel
theorem dX9_passOne_8 : decode cX9_passOne 8 = .ok (.goto 12, 3) := by decide +kernel
theorem dX9_passOne_11 : decode cX9_passOne 11 = .ok (.aload_n 0, 1) := by decide +kernel
theorem dX9_passOne_12 : decode cX9_passOne 12 = .ok (.getfield 71, 3) := by decide +kernel
theorem dX9_passOne_15 : decode cX9_passOne 15 = .ok (.aload_n 0, 1) := by decide +kernel
theorem dX9_passOne_16 : decode cX9_passOne 16 = .ok (.getfield 174, 3) := by decide +kernel
theorem dX9_passOne_19 : decode cX9_passOne 19 = .ok (.iaload, 1) := by decide +kernel
theorem dX9_passOne_20 : decode cX9_passOne 20 = .ok (.istore_n 2, 1) := by decide +kernel
theorem dX9_passOne_21 : decode cX9_passOne 21 = .ok (.aload_n 0, 1) := by decide +kernel
theorem dX9_passOne_22 : decode cX9_passOne 22 = .ok (.getfield 170, 3) := by decide +kernel
theorem dX9_passOne_25 : decode cX9_passOne 25 = .ok (.ifCond .eq 13, 3) := by decide +kernel
theorem dX9_passOne_28 : decode cX9_passOne 28 = .ok (.aload_n 0, 1) := by decide +kernel
theorem dX9_passOne_29 : decode cX9_passOne 29 = .ok (.getfield 71, 3) := by decide +kernel
theorem dX9_passOne_32 : decode cX9_passOne 32 = .ok (.aload_n 0, 1) := by decide +kernel
theorem dX9_passOne_33 : decode cX9_passOne 33 = .ok (.getfield 174, 3) := by decide +kernel
theorem dX9_passOne_36 : decode cX9_passOne 36 = .ok (.iload_n 1, 1) := by decide +kernel
theorem dX9_passOne_37 : decode cX9_passOne 37 = .ok (.iastore, 1) := by decide +kernel
theorem dX9_passOne_38 : decode cX9_passOne 38 = .ok (.aload_n 0, 1) := by decide +kernel
theorem dX9_passOne_39 : decode cX9_passOne 39 = .ok (.dup, 1) := by decide +kernel
theorem dX9_passOne_40 : decode cX9_passOne 40 = .ok (.getfield 174, 3) := by decide +kernel
theorem dX9_passOne_43 : decode cX9_passOne 43 = .ok (.iconst 1, 1) := by decide +kernel
theorem dX9_passOne_44 : decode cX9_passOne 44 = .ok (.iadd, 1) := by decide +kernel
theorem dX9_passOne_45 : decode cX9_passOne 45 = .ok (.putfield 174, 3) := by decide +kernel
theorem dX9_passOne_48 : decode cX9_passOne 48 = .ok (.iload_n 2, 1) := by decide +kernel
theorem dX9_passOne_49 : decode cX9_passOne 49 = .ok (.ireturn, 1) := by decide +kernel
theorem dX9_passesAll_0 : decode cX9_passesAll 0 = .ok (.aload_n 0, 1) := by decide +kernel
theorem dX9_passesAll_1 : decode cX9_passesAll 1 = .ok (.sipush 200, 3) := by decide +kernel
theorem dX9_passesAll_4 : decode cX9_passesAll 4 = .ok (.iload_n 1, 1) := by decide +kernel
theorem dX9_passesAll_5 : decode cX9_passesAll 5 = .ok (.imul, 1) := by decide +kernel
theorem dX9_passesAll_6 : decode cX9_passesAll 6 = .ok (.putfield 174, 3) := by decide +kernel
theorem dX9_passesAll_9 : decode cX9_passesAll 9 = .ok (.aload_n 0, 1) := by decide +kernel
theorem dX9_passesAll_10 : decode cX9_passesAll 10 = .ok (.iload_n 2, 1) := by decide +kernel
theorem dX9_passesAll_11 : decode cX9_passesAll 11 = .ok (.putfield 170, 3) := by decide +kernel
theorem dX9_passesAll_14 : decode cX9_passesAll 14 = .ok (.aload_n 0, 1) := by decide +kernel
theorem dX9_passesAll_15 : decode cX9_passesAll 15 = .ok (.aload_n 0, 1) := by decide +kernel
theorem dX9_passesAll_16 : decode cX9_passesAll 16 = .ok (.getfield 13, 3) := by decide +kernel
theorem dX9_passesAll_19 : decode cX9_passesAll 19 = .ok (.invokevirtual 177, 3) := by decide +kernel
theorem dX9_passesAll_22 : decode cX9_passesAll 22 = .ok (.aload_n 0, 1) := by decide +kernel
theorem dX9_passesAll_23 : decode cX9_passesAll 23 = .ok (.aload_n 0, 1) := by decide +kernel
theorem dX9_passesAll_24 : decode cX9_passesAll 24 = .ok (.getfield 16, 3) := by decide +kernel
theorem dX9_passesAll_27 : decode cX9_passesAll 27 = .ok (.invokevirtual 177, 3) := by decide +kernel
theorem dX9_passesAll_30 : decode cX9_passesAll 30 = .ok (.aload_n 0, 1) := by decide +kernel
theorem dX9_passesAll_31 : decode cX9_passesAll 31 = .ok (.aload_n 0, 1) := by decide +kernel
theorem dX9_passesAll_32 : decode cX9_passesAll 32 = .ok (.getfield 19, 3) := by decide +kernel
theorem dX9_passesAll_35 : decode cX9_passesAll 35 = .ok (.invokevirtual 177, 3) := by decide +kernel
theorem dX9_passesAll_38 : decode cX9_passesAll 38 = .ok (.aload_n 0, 1) := by decide +kernel
theorem dX9_passesAll_39 : decode cX9_passesAll 39 = .ok (.aload_n 0, 1) := by decide +kernel
theorem dX9_passesAll_40 : decode cX9_passesAll 40 = .ok (.getfield 22, 3) := by decide +kernel
theorem dX9_passesAll_43 : decode cX9_passesAll 43 = .ok (.invokevirtual 177, 3) := by decide +kernel
theorem dX9_passesAll_46 : decode cX9_passesAll 46 = .ok (.aload_n 0, 1) := by decide +kernel
theorem dX9_passesAll_47 : decode cX9_passesAll 47 = .ok (.aload_n 0, 1) := by decide +kernel
theorem dX9_passesAll_48 : decode cX9_passesAll 48 = .ok (.getfield 25, 3) := by decide +kernel
theorem dX9_passesAll_51 : decode cX9_passesAll 51 = .ok (.invokevirtual 177, 3) := by decide +kernel
theorem dX9_passesAll_54 : decode cX9_passesAll 54 = .ok (.aload_n 0, 1) := by decide +kernel
theorem dX9_passesAll_55 : decode cX9_passesAll 55 = .ok (.aload_n 0, 1) := by decide +kernel
theorem dX9_passesAll_56 : decode cX9_passesAll 56 = .ok (.getfield 28, 3) := by decide +kernel
theorem dX9_passesAll_59 : decode cX9_passesAll 59 = .ok (.invokevirtual 177, 3) := by decide +kernel
theorem dX9_passesAll_62 : decode cX9_passesAll 62 = .ok (.aload_n 0, 1) := by decide +kernel
theorem dX9_passesAll_63 : decode cX9_passesAll 63 = .ok (.aload_n 0, 1) := by decide +kernel
theorem dX9_passesAll_64 : decode cX9_passesAll 64 = .ok (.getfield 31, 3) := by decide +kernel
theorem dX9_passesAll_67 : decode cX9_passesAll 67 = .ok (.invokevirtual 177, 3) := by decide +kernel
theorem dX9_passesAll_70 : decode cX9_passesAll 70 = .ok (.aload_n 0, 1) := by decide +kernel
theorem dX9_passesAll_71 : decode cX9_passesAll 71 = .ok (.aload_n 0, 1) := by decide +kernel
theorem dX9_passesAll_72 : decode cX9_passesAll 72 = .ok (.getfield 34, 3) := by decide +kernel
theorem dX9_passesAll_75 : decode cX9_passesAll 75 = .ok (.invokevirtual 177, 3) := by decide +kernel
theorem dX9_passesAll_78 : decode cX9_passesAll 78 = .ok (.aload_n 0, 1) := by decide +kernel
theorem dX9_passesAll_79 : decode cX9_passesAll 79 = .ok (.aload_n 0, 1) := by decide +kernel
theorem dX9_passesAll_80 : decode cX9_passesAll 80 = .ok (.getfield 37, 3) := by decide +kernel
theorem dX9_passesAll_83 : decode cX9_passesAll 83 = .ok (.invokevirtual 177, 3) := by decide +kernel
theorem dX9_passesAll_86 : decode cX9_passesAll 86 = .ok (.aload_n 0, 1) := by decide +kernel
theorem dX9_passesAll_87 : decode cX9_passesAll 87 = .ok (.aload_n 0, 1) := by decide +kernel
theorem dX9_passesAll_88 : decode cX9_passesAll 88 = .ok (.getfield 40, 3) := by decide +kernel
theorem dX9_passesAll_91 : decode cX9_passesAll 91 = .ok (.invokevirtual 177, 3) := by decide +kernel
theorem dX9_passesAll_94 : decode cX9_passesAll 94 = .ok (.aload_n 0, 1) := by decide +kernel
theorem dX9_passesAll_95 : decode cX9_passesAll 95 = .ok (.aload_n 0, 1) := by decide +kernel
theorem dX9_passesAll_96 : decode cX9_passesAll 96 = .ok (.aload_n 0, 1) := by decide +kernel
theorem dX9_passesAll_97 : decode cX9_passesAll 97 = .ok (.getfield 43, 3) := by decide +kernel
theorem dX9_passesAll_100 : decode cX9_passesAll 100 = .ok (.invokevirtual 181, 3) := by decide +kernel
theorem dX9_passesAll_103 : decode cX9_passesAll 103 = .ok (.putfield 43, 3) := by decide +kernel
theorem dX9_passesAll_106 : decode cX9_passesAll 106 = .ok (.aload_n 0, 1) := by decide +kernel
theorem dX9_passesAll_107 : decode cX9_passesAll 107 = .ok (.aload_n 0, 1) := by decide +kernel
theorem dX9_passesAll_108 : decode cX9_passesAll 108 = .ok (.aload_n 0, 1) := by decide +kernel
theorem dX9_passesAll_109 : decode cX9_passesAll 109 = .ok (.getfield 86, 3) := by decide +kernel
theorem dX9_passesAll_112 : decode cX9_passesAll 112 = .ok (.invokevirtual 181, 3) := by decide +kernel
theorem dX9_passesAll_115 : decode cX9_passesAll 115 = .ok (.putfield 86, 3) := by decide +kernel
theorem dX9_passesAll_118 : decode cX9_passesAll 118 = .ok (.aload_n 0, 1) := by decide +kernel
theorem dX9_passesAll_119 : decode cX9_passesAll 119 = .ok (.aload_n 0, 1) := by decide +kernel
theorem dX9_passesAll_120 : decode cX9_passesAll 120 = .ok (.aload_n 0, 1) := by decide +kernel
theorem dX9_passesAll_121 : decode cX9_passesAll 121 = .ok (.getfield 126, 3) := by decide +kernel
theorem dX9_passesAll_124 : decode cX9_passesAll 124 = .ok (.invokevirtual 181, 3) := by decide +kernel
theorem dX9_passesAll_127 : decode cX9_passesAll 127 = .ok (.putfield 126, 3) := by decide +kernel
theorem dX9_passesAll_130 : decode cX9_passesAll 130 = .ok (.aload_n 0, 1) := by decide +kernel
theorem dX9_passesAll_131 : decode cX9_passesAll 131 = .ok (.aload_n 0, 1) := by decide +kernel
theorem dX9_passesAll_132 : decode cX9_passesAll 132 = .ok (.aload_n 0, 1) := by decide +kernel
theorem dX9_passesAll_133 : decode cX9_passesAll 133 = .ok (.getfield 47, 3) := by decide +kernel
theorem dX9_passesAll_136 : decode cX9_passesAll 136 = .ok (.invokevirtual 181, 3) := by decide +kernel
theorem dX9_passesAll_139 : decode cX9_passesAll 139 = .ok (.putfield 47, 3) := by decide +kernel
theorem dX9_passesAll_142 : decode cX9_passesAll 142 = .ok (.aload_n 0, 1) := by decide +kernel
theorem dX9_passesAll_143 : decode cX9_passesAll 143 = .ok (.aload_n 0, 1) := by decide +kernel
theorem dX9_passesAll_144 : decode cX9_passesAll 144 = .ok (.aload_n 0, 1) := by decide +kernel
theorem dX9_passesAll_145 : decode cX9_passesAll 145 = .ok (.getfield 129, 3) := by decide +kernel
theorem dX9_passesAll_148 : decode cX9_passesAll 148 = .ok (.invokevirtual 181, 3) := by decide +kernel
theorem dX9_passesAll_151 : decode cX9_passesAll 151 = .ok (.putfield 129, 3) := by decide +kernel
theorem dX9_passesAll_154 : decode cX9_passesAll 154 = .ok (.aload_n 0, 1) := by decide +kernel
theorem dX9_passesAll_155 : decode cX9_passesAll 155 = .ok (.aload_n 0, 1) := by decide +kernel
theorem dX9_passesAll_156 : decode cX9_passesAll 156 = .ok (.aload_n 0, 1) := by decide +kernel
theorem dX9_passesAll_157 : decode cX9_passesAll 157 = .ok (.getfield 50, 3) := by decide +kernel
theorem dX9_passesAll_160 : decode cX9_passesAll 160 = .ok (.invokevirtual 181, 3) := by decide +kernel
theorem dX9_passesAll_163 : decode cX9_passesAll 163 = .ok (.putfield 50, 3) := by decide +kernel
theorem dX9_passesAll_166 : decode cX9_passesAll 166 = .ok (.aload_n 0, 1) := by decide +kernel
theorem dX9_passesAll_167 : decode cX9_passesAll 167 = .ok (.aload_n 0, 1) := by decide +kernel
theorem dX9_passesAll_168 : decode cX9_passesAll 168 = .ok (.aload_n 0, 1) := by decide +kernel
theorem dX9_passesAll_169 : decode cX9_passesAll 169 = .ok (.getfield 184, 3) := by decide +kernel
theorem dX9_passesAll_172 : decode cX9_passesAll 172 = .ok (.invokevirtual 181, 3) := by decide +kernel
theorem dX9_passesAll_175 : decode cX9_passesAll 175 = .ok (.putfield 184, 3) := by decide +kernel
theorem dX9_passesAll_178 : decode cX9_passesAll 178 = .ok (.aload_n 0, 1) := by decide +kernel
theorem dX9_passesAll_179 : decode cX9_passesAll 179 = .ok (.aload_n 0, 1) := by decide +kernel
theorem dX9_passesAll_180 : decode cX9_passesAll 180 = .ok (.aload_n 0, 1) := by decide +kernel
theorem dX9_passesAll_181 : decode cX9_passesAll 181 = .ok (.getfield 187, 3) := by decide +kernel
theorem dX9_passesAll_184 : decode cX9_passesAll 184 = .ok (.invokevirtual 181, 3) := by decide +kernel
theorem dX9_passesAll_187 : decode cX9_passesAll 187 = .ok (.putfield 187, 3) := by decide +kernel
theorem dX9_passesAll_190 : decode cX9_passesAll 190 = .ok (.aload_n 0, 1) := by decide +kernel
theorem dX9_passesAll_191 : decode cX9_passesAll 191 = .ok (.aload_n 0, 1) := by decide +kernel
theorem dX9_passesAll_192 : decode cX9_passesAll 192 = .ok (.aload_n 0, 1) := by decide +kernel
theorem dX9_passesAll_193 : decode cX9_passesAll 193 = .ok (.getfield 89, 3) := by decide +kernel
theorem dX9_passesAll_196 : decode cX9_passesAll 196 = .ok (.invokevirtual 181, 3) := by decide +kernel
theorem dX9_passesAll_199 : decode cX9_passesAll 199 = .ok (.putfield 89, 3) := by decide +kernel
theorem dX9_passesAll_202 : decode cX9_passesAll 202 = .ok (.return_, 1) := by decide +kernel
theorem dX9_walks_0 : decode cX9_walks 0 = .ok (.iconst 0, 1) := by decide +kernel
theorem dX9_walks_1 : decode cX9_walks 1 = .ok (.istore_n 1, 1) := by decide +kernel
theorem dX9_walks_2 : decode cX9_walks 2 = .ok (.iload_n 1, 1) := by decide +kernel
theorem dX9_walks_3 : decode cX9_walks 3 = .ok (.aload_n 0, 1) := by decide +kernel
theorem dX9_walks_4 : decode cX9_walks 4 = .ok (.getfield 86, 3) := by decide +kernel
theorem dX9_walks_7 : decode cX9_walks 7 = .ok (.if_icmp .ge 125, 3) := by decide +kernel
theorem dX9_walks_10 : decode cX9_walks 10 = .ok (.aload_n 0, 1) := by decide +kernel
theorem dX9_walks_11 : decode cX9_walks 11 = .ok (.getfield 22, 3) := by decide +kernel
theorem dX9_walks_14 : decode cX9_walks 14 = .ok (.iload_n 1, 1) := by decide +kernel
theorem dX9_walks_15 : decode cX9_walks 15 = .ok (.iaload, 1) := by decide +kernel
theorem dX9_walks_16 : decode cX9_walks 16 = .ok (.ifCond .ne 6, 3) := by decide +kernel
theorem dX9_walks_19 : decode cX9_walks 19 = .ok (.goto 107, 3) := by decide +kernel
theorem dX9_walks_22 : decode cX9_walks 22 = .ok (.aload_n 0, 1) := by decide +kernel
theorem dX9_walks_23 : decode cX9_walks 23 = .ok (.getfield 19, 3) := by decide +kernel
theorem dX9_walks_26 : decode cX9_walks 26 = .ok (.iload_n 1, 1) := by decide +kernel
theorem dX9_walks_27 : decode cX9_walks 27 = .ok (.dup2, 1) := by decide +kernel
theorem dX9_walks_28 : decode cX9_walks 28 = .ok (.iaload, 1) := by decide +kernel
theorem dX9_walks_29 : decode cX9_walks 29 = .ok (.aload_n 0, 1) := by decide +kernel
theorem dX9_walks_30 : decode cX9_walks 30 = .ok (.getfield 13, 3) := by decide +kernel
theorem dX9_walks_33 : decode cX9_walks 33 = .ok (.aload_n 0, 1) := by decide +kernel
theorem dX9_walks_34 : decode cX9_walks 34 = .ok (.getfield 16, 3) := by decide +kernel
theorem dX9_walks_37 : decode cX9_walks 37 = .ok (.iload_n 1, 1) := by decide +kernel
theorem dX9_walks_38 : decode cX9_walks 38 = .ok (.iaload, 1) := by decide +kernel
theorem dX9_walks_39 : decode cX9_walks 39 = .ok (.iaload, 1) := by decide +kernel
theorem dX9_walks_40 : decode cX9_walks 40 = .ok (.iconst 1, 1) := by decide +kernel
theorem dX9_walks_41 : decode cX9_walks 41 = .ok (.if_icmp .ne 12, 3) := by decide +kernel
theorem dX9_walks_44 : decode cX9_walks 44 = .ok (.aload_n 0, 1) := by decide +kernel
theorem dX9_walks_45 : decode cX9_walks 45 = .ok (.getfield 31, 3) := by decide +kernel
theorem dX9_walks_48 : decode cX9_walks 48 = .ok (.iload_n 1, 1) := by decide +kernel
theorem dX9_walks_49 : decode cX9_walks 49 = .ok (.iaload, 1) := by decide +kernel
theorem dX9_walks_50 : decode cX9_walks 50 = .ok (.goto 9, 3) := by decide +kernel
theorem dX9_walks_53 : decode cX9_walks 53 = .ok (.aload_n 0, 1) := by decide +kernel
theorem dX9_walks_54 : decode cX9_walks 54 = .ok (.getfield 28, 3) := by decide +kernel
theorem dX9_walks_57 : decode cX9_walks 57 = .ok (.iload_n 1, 1) := by decide +kernel
theorem dX9_walks_58 : decode cX9_walks 58 = .ok (.iaload, 1) := by decide +kernel
theorem dX9_walks_59 : decode cX9_walks 59 = .ok (.iadd, 1) := by decide +kernel
theorem dX9_walks_60 : decode cX9_walks 60 = .ok (.iastore, 1) := by decide +kernel
theorem dX9_walks_61 : decode cX9_walks 61 = .ok (.aload_n 0, 1) := by decide +kernel
theorem dX9_walks_62 : decode cX9_walks 62 = .ok (.getfield 19, 3) := by decide +kernel
theorem dX9_walks_65 : decode cX9_walks 65 = .ok (.iload_n 1, 1) := by decide +kernel
theorem dX9_walks_66 : decode cX9_walks 66 = .ok (.iaload, 1) := by decide +kernel
theorem dX9_walks_67 : decode cX9_walks 67 = .ok (.bipush 100, 2) := by decide +kernel
theorem dX9_walks_69 : decode cX9_walks 69 = .ok (.if_icmp .ge 6, 3) := by decide +kernel
theorem dX9_walks_72 : decode cX9_walks 72 = .ok (.goto 54, 3) := by decide +kernel
theorem dX9_walks_75 : decode cX9_walks 75 = .ok (.aload_n 0, 1) := by decide +kernel
theorem dX9_walks_76 : decode cX9_walks 76 = .ok (.getfield 16, 3) := by decide +kernel
theorem dX9_walks_79 : decode cX9_walks 79 = .ok (.iload_n 1, 1) := by decide +kernel
theorem dX9_walks_80 : decode cX9_walks 80 = .ok (.iaload, 1) := by decide +kernel
theorem dX9_walks_81 : decode cX9_walks 81 = .ok (.iconst 1, 1) := by decide +kernel
theorem dX9_walks_82 : decode cX9_walks 82 = .ok (.iadd, 1) := by decide +kernel
theorem dX9_walks_83 : decode cX9_walks 83 = .ok (.aload_n 0, 1) := by decide +kernel
theorem dX9_walks_84 : decode cX9_walks 84 = .ok (.getfield 43, 3) := by decide +kernel
theorem dX9_walks_87 : decode cX9_walks 87 = .ok (.irem, 1) := by decide +kernel
theorem dX9_walks_88 : decode cX9_walks 88 = .ok (.istore_n 2, 1) := by decide +kernel
theorem dX9_walks_89 : decode cX9_walks 89 = .ok (.aload_n 0, 1) := by decide +kernel
theorem dX9_walks_90 : decode cX9_walks 90 = .ok (.iload_n 2, 1) := by decide +kernel
theorem dX9_walks_91 : decode cX9_walks 91 = .ok (.invokevirtual 116, 3) := by decide +kernel
theorem dX9_walks_94 : decode cX9_walks 94 = .ok (.ifCond .eq 14, 3) := by decide +kernel
theorem dX9_walks_97 : decode cX9_walks 97 = .ok (.aload_n 0, 1) := by decide +kernel
theorem dX9_walks_98 : decode cX9_walks 98 = .ok (.getfield 19, 3) := by decide +kernel
theorem dX9_walks_101 : decode cX9_walks 101 = .ok (.iload_n 1, 1) := by decide +kernel
theorem dX9_walks_102 : decode cX9_walks 102 = .ok (.bipush 99, 2) := by decide +kernel
theorem dX9_walks_104 : decode cX9_walks 104 = .ok (.iastore, 1) := by decide +kernel
theorem dX9_walks_105 : decode cX9_walks 105 = .ok (.goto 21, 3) := by decide +kernel
theorem dX9_walks_108 : decode cX9_walks 108 = .ok (.aload_n 0, 1) := by decide +kernel
theorem dX9_walks_109 : decode cX9_walks 109 = .ok (.getfield 16, 3) := by decide +kernel
theorem dX9_walks_112 : decode cX9_walks 112 = .ok (.iload_n 1, 1) := by decide +kernel
theorem dX9_walks_113 : decode cX9_walks 113 = .ok (.iload_n 2, 1) := by decide +kernel
theorem dX9_walks_114 : decode cX9_walks 114 = .ok (.iastore, 1) := by decide +kernel
theorem dX9_walks_115 : decode cX9_walks 115 = .ok (.aload_n 0, 1) := by decide +kernel
theorem dX9_walks_116 : decode cX9_walks 116 = .ok (.getfield 19, 3) := by decide +kernel
theorem dX9_walks_119 : decode cX9_walks 119 = .ok (.iload_n 1, 1) := by decide +kernel
theorem dX9_walks_120 : decode cX9_walks 120 = .ok (.dup2, 1) := by decide +kernel
theorem dX9_walks_121 : decode cX9_walks 121 = .ok (.iaload, 1) := by decide +kernel
theorem dX9_walks_122 : decode cX9_walks 122 = .ok (.bipush 100, 2) := by decide +kernel
theorem dX9_walks_124 : decode cX9_walks 124 = .ok (.isub, 1) := by decide +kernel
theorem dX9_walks_125 : decode cX9_walks 125 = .ok (.iastore, 1) := by decide +kernel
theorem dX9_walks_126 : decode cX9_walks 126 = .ok (.iinc 1 1, 3) := by decide +kernel
theorem dX9_walks_129 : decode cX9_walks 129 = .ok (.goto (-127), 3) := by decide +kernel
theorem dX9_walks_132 : decode cX9_walks 132 = .ok (.return_, 1) := by decide +kernel
theorem dX9_isSeat_0 : decode cX9_isSeat 0 = .ok (.iconst 0, 1) := by decide +kernel
theorem dX9_isSeat_1 : decode cX9_isSeat 1 = .ok (.istore_n 2, 1) := by decide +kernel
theorem dX9_isSeat_2 : decode cX9_isSeat 2 = .ok (.iload_n 2, 1) := by decide +kernel
theorem dX9_isSeat_3 : decode cX9_isSeat 3 = .ok (.aload_n 0, 1) := by decide +kernel
theorem dX9_isSeat_4 : decode cX9_isSeat 4 = .ok (.getfield 86, 3) := by decide +kernel
theorem dX9_isSeat_7 : decode cX9_isSeat 7 = .ok (.if_icmp .ge 21, 3) := by decide +kernel
theorem dX9_isSeat_10 : decode cX9_isSeat 10 = .ok (.aload_n 0, 1) := by decide +kernel
theorem dX9_isSeat_11 : decode cX9_isSeat 11 = .ok (.getfield 74, 3) := by decide +kernel
theorem dX9_isSeat_14 : decode cX9_isSeat 14 = .ok (.iload_n 2, 1) := by decide +kernel
theorem dX9_isSeat_15 : decode cX9_isSeat 15 = .ok (.iaload, 1) := by decide +kernel
theorem dX9_isSeat_16 : decode cX9_isSeat 16 = .ok (.iload_n 1, 1) := by decide +kernel
theorem dX9_isSeat_17 : decode cX9_isSeat 17 = .ok (.if_icmp .ne 5, 3) := by decide +kernel
theorem dX9_isSeat_20 : decode cX9_isSeat 20 = .ok (.iconst 1, 1) := by decide +kernel
theorem dX9_isSeat_21 : decode cX9_isSeat 21 = .ok (.ireturn, 1) := by decide +kernel
theorem dX9_isSeat_22 : decode cX9_isSeat 22 = .ok (.iinc 2 1, 3) := by decide +kernel
theorem dX9_isSeat_25 : decode cX9_isSeat 25 = .ok (.goto (-23), 3) := by decide +kernel
theorem dX9_isSeat_28 : decode cX9_isSeat 28 = .ok (.iconst 0, 1) := by decide +kernel
theorem dX9_isSeat_29 : decode cX9_isSeat 29 = .ok (.ireturn, 1) := by decide +kernel
theorem dX9_mayReach_0 : decode cX9_mayReach 0 = .ok (.aload_n 0, 1) := by decide +kernel
theorem dX9_mayReach_1 : decode cX9_mayReach 1 = .ok (.aload_n 0, 1) := by decide +kernel
theorem dX9_mayReach_2 : decode cX9_mayReach 2 = .ok (.getfield 16, 3) := by decide +kernel
theorem dX9_mayReach_5 : decode cX9_mayReach 5 = .ok (.iload_n 1, 1) := by decide +kernel
theorem dX9_mayReach_6 : decode cX9_mayReach 6 = .ok (.iaload, 1) := by decide +kernel
theorem dX9_mayReach_7 : decode cX9_mayReach 7 = .ok (.iload_n 2, 1) := by decide +kernel
theorem dX9_mayReach_8 : decode cX9_mayReach 8 = .ok (.invokevirtual 132, 3) := by decide +kernel
theorem dX9_mayReach_11 : decode cX9_mayReach 11 = .ok (.aload_n 0, 1) := by decide +kernel
theorem dX9_mayReach_12 : decode cX9_mayReach 12 = .ok (.getfield 34, 3) := by decide +kernel
theorem dX9_mayReach_15 : decode cX9_mayReach 15 = .ok (.iload_n 1, 1) := by decide +kernel
theorem dX9_mayReach_16 : decode cX9_mayReach 16 = .ok (.iaload, 1) := by decide +kernel
theorem dX9_mayReach_17 : decode cX9_mayReach 17 = .ok (.if_icmp .gt 7, 3) := by decide +kernel
theorem dX9_mayReach_20 : decode cX9_mayReach 20 = .ok (.iconst 1, 1) := by decide +kernel
theorem dX9_mayReach_21 : decode cX9_mayReach 21 = .ok (.goto 4, 3) := by decide +kernel
theorem dX9_mayReach_24 : decode cX9_mayReach 24 = .ok (.iconst 0, 1) := by decide +kernel
theorem dX9_mayReach_25 : decode cX9_mayReach 25 = .ok (.ireturn, 1) := by decide +kernel
theorem dX9_seatsOne_0 : decode cX9_seatsOne 0 = .ok (.iconst (-1), 1) := by decide +kernel
theorem dX9_seatsOne_1 : decode cX9_seatsOne 1 = .ok (.istore_n 1, 1) := by decide +kernel
theorem dX9_seatsOne_2 : decode cX9_seatsOne 2 = .ok (.iconst (-1), 1) := by decide +kernel
theorem dX9_seatsOne_3 : decode cX9_seatsOne 3 = .ok (.istore_n 2, 1) := by decide +kernel
theorem dX9_seatsOne_4 : decode cX9_seatsOne 4 = .ok (.iconst 0, 1) := by decide +kernel
theorem dX9_seatsOne_5 : decode cX9_seatsOne 5 = .ok (.istore_n 3, 1) := by decide +kernel
theorem dX9_seatsOne_6 : decode cX9_seatsOne 6 = .ok (.iload_n 3, 1) := by decide +kernel
theorem dX9_seatsOne_7 : decode cX9_seatsOne 7 = .ok (.aload_n 0, 1) := by decide +kernel
theorem dX9_seatsOne_8 : decode cX9_seatsOne 8 = .ok (.getfield 86, 3) := by decide +kernel
theorem dX9_seatsOne_11 : decode cX9_seatsOne 11 = .ok (.if_icmp .ge 108, 3) := by decide +kernel
theorem dX9_seatsOne_14 : decode cX9_seatsOne 14 = .ok (.aload_n 0, 1) := by decide +kernel
theorem dX9_seatsOne_15 : decode cX9_seatsOne 15 = .ok (.getfield 22, 3) := by decide +kernel
theorem dX9_seatsOne_18 : decode cX9_seatsOne 18 = .ok (.iload_n 3, 1) := by decide +kernel
theorem dX9_seatsOne_19 : decode cX9_seatsOne 19 = .ok (.iaload, 1) := by decide +kernel
theorem dX9_seatsOne_20 : decode cX9_seatsOne 20 = .ok (.ifCond .eq 93, 3) := by decide +kernel
theorem dX9_seatsOne_23 : decode cX9_seatsOne 23 = .ok (.aload_n 0, 1) := by decide +kernel
theorem dX9_seatsOne_24 : decode cX9_seatsOne 24 = .ok (.getfield 74, 3) := by decide +kernel
theorem dX9_seatsOne_27 : decode cX9_seatsOne 27 = .ok (.iload_n 3, 1) := by decide +kernel
theorem dX9_seatsOne_28 : decode cX9_seatsOne 28 = .ok (.iaload, 1) := by decide +kernel
theorem dX9_seatsOne_29 : decode cX9_seatsOne 29 = .ok (.ifCond .lt 6, 3) := by decide +kernel
theorem dX9_seatsOne_32 : decode cX9_seatsOne 32 = .ok (.goto 81, 3) := by decide +kernel
theorem dX9_seatsOne_35 : decode cX9_seatsOne 35 = .ok (.iconst 0, 1) := by decide +kernel
theorem dX9_seatsOne_36 : decode cX9_seatsOne 36 = .ok (.istore 4, 2) := by decide +kernel
theorem dX9_seatsOne_38 : decode cX9_seatsOne 38 = .ok (.iload 4, 2) := by decide +kernel
theorem dX9_seatsOne_40 : decode cX9_seatsOne 40 = .ok (.aload_n 0, 1) := by decide +kernel
theorem dX9_seatsOne_41 : decode cX9_seatsOne 41 = .ok (.getfield 43, 3) := by decide +kernel
theorem dX9_seatsOne_44 : decode cX9_seatsOne 44 = .ok (.if_icmp .ge 69, 3) := by decide +kernel
theorem dX9_seatsOne_47 : decode cX9_seatsOne 47 = .ok (.aload_n 0, 1) := by decide +kernel
theorem dX9_seatsOne_48 : decode cX9_seatsOne 48 = .ok (.getfield 13, 3) := by decide +kernel
theorem dX9_seatsOne_51 : decode cX9_seatsOne 51 = .ok (.iload 4, 2) := by decide +kernel
theorem dX9_seatsOne_53 : decode cX9_seatsOne 53 = .ok (.iaload, 1) := by decide +kernel
theorem dX9_seatsOne_54 : decode cX9_seatsOne 54 = .ok (.ifCond .eq 53, 3) := by decide +kernel
theorem dX9_seatsOne_57 : decode cX9_seatsOne 57 = .ok (.aload_n 0, 1) := by decide +kernel
theorem dX9_seatsOne_58 : decode cX9_seatsOne 58 = .ok (.iload 4, 2) := by decide +kernel
theorem dX9_seatsOne_60 : decode cX9_seatsOne 60 = .ok (.invokevirtual 190, 3) := by decide +kernel
theorem dX9_seatsOne_63 : decode cX9_seatsOne 63 = .ok (.ifCond .ne 44, 3) := by decide +kernel
theorem dX9_seatsOne_66 : decode cX9_seatsOne 66 = .ok (.aload_n 0, 1) := by decide +kernel
theorem dX9_seatsOne_67 : decode cX9_seatsOne 67 = .ok (.iload_n 3, 1) := by decide +kernel
theorem dX9_seatsOne_68 : decode cX9_seatsOne 68 = .ok (.iload 4, 2) := by decide +kernel
theorem dX9_seatsOne_70 : decode cX9_seatsOne 70 = .ok (.invokevirtual 193, 3) := by decide +kernel
theorem dX9_seatsOne_73 : decode cX9_seatsOne 73 = .ok (.ifCond .ne 6, 3) := by decide +kernel
theorem dX9_seatsOne_76 : decode cX9_seatsOne 76 = .ok (.goto 31, 3) := by decide +kernel
theorem dX9_seatsOne_79 : decode cX9_seatsOne 79 = .ok (.iload_n 1, 1) := by decide +kernel
theorem dX9_seatsOne_80 : decode cX9_seatsOne 80 = .ok (.ifCond .lt 22, 3) := by decide +kernel
theorem dX9_seatsOne_83 : decode cX9_seatsOne 83 = .ok (.aload_n 0, 1) := by decide +kernel
theorem dX9_seatsOne_84 : decode cX9_seatsOne 84 = .ok (.iload_n 3, 1) := by decide +kernel
theorem dX9_seatsOne_85 : decode cX9_seatsOne 85 = .ok (.iload 4, 2) := by decide +kernel
theorem dX9_seatsOne_87 : decode cX9_seatsOne 87 = .ok (.invokevirtual 136, 3) := by decide +kernel
theorem dX9_seatsOne_90 : decode cX9_seatsOne 90 = .ok (.aload_n 0, 1) := by decide +kernel
theorem dX9_seatsOne_91 : decode cX9_seatsOne 91 = .ok (.iload_n 1, 1) := by decide +kernel
theorem dX9_seatsOne_92 : decode cX9_seatsOne 92 = .ok (.iload_n 2, 1) := by decide +kernel
theorem dX9_seatsOne_93 : decode cX9_seatsOne 93 = .ok (.invokevirtual 136, 3) := by decide +kernel
theorem dX9_seatsOne_96 : decode cX9_seatsOne 96 = .ok (.if_icmp .lt 6, 3) := by decide +kernel
theorem dX9_seatsOne_99 : decode cX9_seatsOne 99 = .ok (.goto 8, 3) := by decide +kernel
theorem dX9_seatsOne_102 : decode cX9_seatsOne 102 = .ok (.iload_n 3, 1) := by decide +kernel
theorem dX9_seatsOne_103 : decode cX9_seatsOne 103 = .ok (.istore_n 1, 1) := by decide +kernel
theorem dX9_seatsOne_104 : decode cX9_seatsOne 104 = .ok (.iload 4, 2) := by decide +kernel
theorem dX9_seatsOne_106 : decode cX9_seatsOne 106 = .ok (.istore_n 2, 1) := by decide +kernel
theorem dX9_seatsOne_107 : decode cX9_seatsOne 107 = .ok (.iinc 4 1, 3) := by decide +kernel
theorem dX9_seatsOne_110 : decode cX9_seatsOne 110 = .ok (.goto (-72), 3) := by decide +kernel
theorem dX9_seatsOne_113 : decode cX9_seatsOne 113 = .ok (.iinc 3 1, 3) := by decide +kernel
theorem dX9_seatsOne_116 : decode cX9_seatsOne 116 = .ok (.goto (-110), 3) := by decide +kernel
theorem dX9_seatsOne_119 : decode cX9_seatsOne 119 = .ok (.iload_n 1, 1) := by decide +kernel
theorem dX9_seatsOne_120 : decode cX9_seatsOne 120 = .ok (.ifCond .ge 5, 3) := by decide +kernel
theorem dX9_seatsOne_123 : decode cX9_seatsOne 123 = .ok (.iconst 0, 1) := by decide +kernel
theorem dX9_seatsOne_124 : decode cX9_seatsOne 124 = .ok (.ireturn, 1) := by decide +kernel
theorem dX9_seatsOne_125 : decode cX9_seatsOne 125 = .ok (.aload_n 0, 1) := by decide +kernel
theorem dX9_seatsOne_126 : decode cX9_seatsOne 126 = .ok (.getfield 74, 3) := by decide +kernel
theorem dX9_seatsOne_129 : decode cX9_seatsOne 129 = .ok (.iload_n 1, 1) := by decide +kernel
theorem dX9_seatsOne_130 : decode cX9_seatsOne 130 = .ok (.iload_n 2, 1) := by decide +kernel
theorem dX9_seatsOne_131 : decode cX9_seatsOne 131 = .ok (.iastore, 1) := by decide +kernel
theorem dX9_seatsOne_132 : decode cX9_seatsOne 132 = .ok (.iconst 1, 1) := by decide +kernel
theorem dX9_seatsOne_133 : decode cX9_seatsOne 133 = .ok (.ireturn, 1) := by decide +kernel
theorem dX9_judges_0 : decode cX9_judges 0 = .ok (.iconst 0, 1) := by decide +kernel
theorem dX9_judges_1 : decode cX9_judges 1 = .ok (.istore_n 2, 1) := by decide +kernel
theorem dX9_judges_2 : decode cX9_judges 2 = .ok (.iload_n 2, 1) := by decide +kernel
theorem dX9_judges_3 : decode cX9_judges 3 = .ok (.aload_n 0, 1) := by decide +kernel
theorem dX9_judges_4 : decode cX9_judges 4 = .ok (.getfield 86, 3) := by decide +kernel
theorem dX9_judges_7 : decode cX9_judges 7 = .ok (.if_icmp .ge 89, 3) := by decide +kernel
theorem dX9_judges_10 : decode cX9_judges 10 = .ok (.aload_n 0, 1) := by decide +kernel
theorem dX9_judges_11 : decode cX9_judges 11 = .ok (.getfield 22, 3) := by decide +kernel
theorem dX9_judges_14 : decode cX9_judges 14 = .ok (.iload_n 2, 1) := by decide +kernel
theorem dX9_judges_15 : decode cX9_judges 15 = .ok (.iaload, 1) := by decide +kernel
theorem dX9_judges_16 : decode cX9_judges 16 = .ok (.ifCond .eq 74, 3) := by decide +kernel
theorem dX9_judges_19 : decode cX9_judges 19 = .ok (.aload_n 0, 1) := by decide +kernel
theorem dX9_judges_20 : decode cX9_judges 20 = .ok (.getfield 74, 3) := by decide +kernel
theorem dX9_judges_23 : decode cX9_judges 23 = .ok (.iload_n 2, 1) := by decide +kernel
theorem dX9_judges_24 : decode cX9_judges 24 = .ok (.iaload, 1) := by decide +kernel
theorem dX9_judges_25 : decode cX9_judges 25 = .ok (.ifCond .ge 65, 3) := by decide +kernel
theorem dX9_judges_28 : decode cX9_judges 28 = .ok (.aload_n 0, 1) := by decide +kernel
theorem dX9_judges_29 : decode cX9_judges 29 = .ok (.iload_n 2, 1) := by decide +kernel
theorem dX9_judges_30 : decode cX9_judges 30 = .ok (.aload_n 0, 1) := by decide +kernel
theorem dX9_judges_31 : decode cX9_judges 31 = .ok (.getfield 74, 3) := by decide +kernel
theorem dX9_judges_34 : decode cX9_judges 34 = .ok (.iload_n 1, 1) := by decide +kernel
theorem dX9_judges_35 : decode cX9_judges 35 = .ok (.iaload, 1) := by decide +kernel
theorem dX9_judges_36 : decode cX9_judges 36 = .ok (.invokevirtual 193, 3) := by decide +kernel
theorem dX9_judges_39 : decode cX9_judges 39 = .ok (.ifCond .eq 51, 3) := by decide +kernel
theorem dX9_judges_42 : decode cX9_judges 42 = .ok (.aload_n 0, 1) := by decide +kernel
theorem dX9_judges_43 : decode cX9_judges 43 = .ok (.iload_n 2, 1) := by decide +kernel
theorem dX9_judges_44 : decode cX9_judges 44 = .ok (.aload_n 0, 1) := by decide +kernel
theorem dX9_judges_45 : decode cX9_judges 45 = .ok (.getfield 74, 3) := by decide +kernel
theorem dX9_judges_48 : decode cX9_judges 48 = .ok (.iload_n 1, 1) := by decide +kernel
theorem dX9_judges_49 : decode cX9_judges 49 = .ok (.iaload, 1) := by decide +kernel
theorem dX9_judges_50 : decode cX9_judges 50 = .ok (.invokevirtual 136, 3) := by decide +kernel
theorem dX9_judges_53 : decode cX9_judges 53 = .ok (.aload_n 0, 1) := by decide +kernel
theorem dX9_judges_54 : decode cX9_judges 54 = .ok (.iload_n 1, 1) := by decide +kernel
theorem dX9_judges_55 : decode cX9_judges 55 = .ok (.aload_n 0, 1) := by decide +kernel
theorem dX9_judges_56 : decode cX9_judges 56 = .ok (.getfield 74, 3) := by decide +kernel
theorem dX9_judges_59 : decode cX9_judges 59 = .ok (.iload_n 1, 1) := by decide +kernel
theorem dX9_judges_60 : decode cX9_judges 60 = .ok (.iaload, 1) := by decide +kernel
theorem dX9_judges_61 : decode cX9_judges 61 = .ok (.invokevirtual 136, 3) := by decide +kernel
theorem dX9_judges_64 : decode cX9_judges 64 = .ok (.if_icmp .le 6, 3) := by decide +kernel
theorem dX9_judges_67 : decode cX9_judges 67 = .ok (.goto 23, 3) := by decide +kernel
theorem dX9_judges_70 : decode cX9_judges 70 = .ok (.aload_n 0, 1) := by decide +kernel
theorem dX9_judges_71 : decode cX9_judges 71 = .ok (.getfield 74, 3) := by decide +kernel
theorem dX9_judges_74 : decode cX9_judges 74 = .ok (.iload_n 2, 1) := by decide +kernel
theorem dX9_judges_75 : decode cX9_judges 75 = .ok (.aload_n 0, 1) := by decide +kernel
theorem dX9_judges_76 : decode cX9_judges 76 = .ok (.getfield 74, 3) := by decide +kernel
theorem dX9_judges_79 : decode cX9_judges 79 = .ok (.iload_n 1, 1) := by decide +kernel
theorem dX9_judges_80 : decode cX9_judges 80 = .ok (.iaload, 1) := by decide +kernel
theorem dX9_judges_81 : decode cX9_judges 81 = .ok (.iastore, 1) := by decide +kernel
theorem dX9_judges_82 : decode cX9_judges 82 = .ok (.aload_n 0, 1) := by decide +kernel
theorem dX9_judges_83 : decode cX9_judges 83 = .ok (.getfield 74, 3) := by decide +kernel
theorem dX9_judges_86 : decode cX9_judges 86 = .ok (.iload_n 1, 1) := by decide +kernel
theorem dX9_judges_87 : decode cX9_judges 87 = .ok (.iconst (-1), 1) := by decide +kernel
theorem dX9_judges_88 : decode cX9_judges 88 = .ok (.iastore, 1) := by decide +kernel
theorem dX9_judges_89 : decode cX9_judges 89 = .ok (.return_, 1) := by decide +kernel
theorem dX9_judges_90 : decode cX9_judges 90 = .ok (.iinc 2 1, 3) := by decide +kernel
theorem dX9_judges_93 : decode cX9_judges 93 = .ok (.goto (-91), 3) := by decide +kernel
theorem dX9_judges_96 : decode cX9_judges 96 = .ok (.return_, 1) := by decide +kernel
theorem dX9_sit_0 : decode cX9_sit 0 = .ok (.iconst 0, 1) := by decide +kernel
theorem dX9_sit_1 : decode cX9_sit 1 = .ok (.istore_n 1, 1) := by decide +kernel
theorem dX9_sit_2 : decode cX9_sit 2 = .ok (.iload_n 1, 1) := by decide +kernel
theorem dX9_sit_3 : decode cX9_sit 3 = .ok (.bipush 12, 2) := by decide +kernel
theorem dX9_sit_5 : decode cX9_sit 5 = .ok (.if_icmp .ge 16, 3) := by decide +kernel
theorem dX9_sit_8 : decode cX9_sit 8 = .ok (.aload_n 0, 1) := by decide +kernel
theorem dX9_sit_9 : decode cX9_sit 9 = .ok (.getfield 74, 3) := by decide +kernel
theorem dX9_sit_12 : decode cX9_sit 12 = .ok (.iload_n 1, 1) := by decide +kernel
theorem dX9_sit_13 : decode cX9_sit 13 = .ok (.iconst (-1), 1) := by decide +kernel
theorem dX9_sit_14 : decode cX9_sit 14 = .ok (.iastore, 1) := by decide +kernel
theorem dX9_sit_15 : decode cX9_sit 15 = .ok (.iinc 1 1, 3) := by decide +kernel
theorem dX9_sit_18 : decode cX9_sit 18 = .ok (.goto (-16), 3) := by decide +kernel
theorem dX9_sit_21 : decode cX9_sit 21 = .ok (.iconst 1, 1) := by decide +kernel
theorem dX9_sit_22 : decode cX9_sit 22 = .ok (.istore_n 1, 1) := by decide +kernel
theorem dX9_sit_23 : decode cX9_sit 23 = .ok (.iload_n 1, 1) := by decide +kernel
theorem dX9_sit_24 : decode cX9_sit 24 = .ok (.ifCond .eq 11, 3) := by decide +kernel
theorem dX9_sit_27 : decode cX9_sit 27 = .ok (.aload_n 0, 1) := by decide +kernel
theorem dX9_sit_28 : decode cX9_sit 28 = .ok (.invokevirtual 197, 3) := by decide +kernel
theorem dX9_sit_31 : decode cX9_sit 31 = .ok (.istore_n 1, 1) := by decide +kernel
theorem dX9_sit_32 : decode cX9_sit 32 = .ok (.goto (-9), 3) := by decide +kernel
theorem dX9_sit_35 : decode cX9_sit 35 = .ok (.iconst 0, 1) := by decide +kernel
theorem dX9_sit_36 : decode cX9_sit 36 = .ok (.istore_n 2, 1) := by decide +kernel
theorem dX9_sit_37 : decode cX9_sit 37 = .ok (.iload_n 2, 1) := by decide +kernel
theorem dX9_sit_38 : decode cX9_sit 38 = .ok (.aload_n 0, 1) := by decide +kernel
theorem dX9_sit_39 : decode cX9_sit 39 = .ok (.getfield 86, 3) := by decide +kernel
theorem dX9_sit_42 : decode cX9_sit 42 = .ok (.if_icmp .ge 44, 3) := by decide +kernel
theorem dX9_sit_45 : decode cX9_sit 45 = .ok (.aload_n 0, 1) := by decide +kernel
theorem dX9_sit_46 : decode cX9_sit 46 = .ok (.getfield 22, 3) := by decide +kernel
theorem dX9_sit_49 : decode cX9_sit 49 = .ok (.iload_n 2, 1) := by decide +kernel
theorem dX9_sit_50 : decode cX9_sit 50 = .ok (.iaload, 1) := by decide +kernel
theorem dX9_sit_51 : decode cX9_sit 51 = .ok (.iconst 1, 1) := by decide +kernel
theorem dX9_sit_52 : decode cX9_sit 52 = .ok (.if_icmp .ne 28, 3) := by decide +kernel
theorem dX9_sit_55 : decode cX9_sit 55 = .ok (.aload_n 0, 1) := by decide +kernel
theorem dX9_sit_56 : decode cX9_sit 56 = .ok (.getfield 25, 3) := by decide +kernel
theorem dX9_sit_59 : decode cX9_sit 59 = .ok (.iload_n 2, 1) := by decide +kernel
theorem dX9_sit_60 : decode cX9_sit 60 = .ok (.iaload, 1) := by decide +kernel
theorem dX9_sit_61 : decode cX9_sit 61 = .ok (.bipush 6, 2) := by decide +kernel
theorem dX9_sit_63 : decode cX9_sit 63 = .ok (.if_icmp .ne 17, 3) := by decide +kernel
theorem dX9_sit_66 : decode cX9_sit 66 = .ok (.aload_n 0, 1) := by decide +kernel
theorem dX9_sit_67 : decode cX9_sit 67 = .ok (.getfield 74, 3) := by decide +kernel
theorem dX9_sit_70 : decode cX9_sit 70 = .ok (.iload_n 2, 1) := by decide +kernel
theorem dX9_sit_71 : decode cX9_sit 71 = .ok (.iaload, 1) := by decide +kernel
theorem dX9_sit_72 : decode cX9_sit 72 = .ok (.ifCond .lt 8, 3) := by decide +kernel
theorem dX9_sit_75 : decode cX9_sit 75 = .ok (.aload_n 0, 1) := by decide +kernel
theorem dX9_sit_76 : decode cX9_sit 76 = .ok (.iload_n 2, 1) := by decide +kernel
theorem dX9_sit_77 : decode cX9_sit 77 = .ok (.invokevirtual 200, 3) := by decide +kernel
theorem dX9_sit_80 : decode cX9_sit 80 = .ok (.iinc 2 1, 3) := by decide +kernel
theorem dX9_sit_83 : decode cX9_sit 83 = .ok (.goto (-46), 3) := by decide +kernel
theorem dX9_sit_86 : decode cX9_sit 86 = .ok (.return_, 1) := by decide +kernel
theorem dX9_nearest_0 : decode cX9_nearest 0 = .ok (.bipush 60, 2) := by decide +kernel
theorem dX9_nearest_2 : decode cX9_nearest 2 = .ok (.istore_n 2, 1) := by decide +kernel
theorem dX9_nearest_3 : decode cX9_nearest 3 = .ok (.iconst 0, 1) := by decide +kernel
theorem dX9_nearest_4 : decode cX9_nearest 4 = .ok (.istore_n 3, 1) := by decide +kernel
theorem dX9_nearest_5 : decode cX9_nearest 5 = .ok (.iload_n 3, 1) := by decide +kernel
theorem dX9_nearest_6 : decode cX9_nearest 6 = .ok (.aload_n 0, 1) := by decide +kernel
theorem dX9_nearest_7 : decode cX9_nearest 7 = .ok (.getfield 43, 3) := by decide +kernel
theorem dX9_nearest_10 : decode cX9_nearest 10 = .ok (.if_icmp .ge 50, 3) := by decide +kernel
theorem dX9_nearest_13 : decode cX9_nearest 13 = .ok (.aload_n 0, 1) := by decide +kernel
theorem dX9_nearest_14 : decode cX9_nearest 14 = .ok (.getfield 13, 3) := by decide +kernel
theorem dX9_nearest_17 : decode cX9_nearest 17 = .ok (.iload_n 3, 1) := by decide +kernel
theorem dX9_nearest_18 : decode cX9_nearest 18 = .ok (.iaload, 1) := by decide +kernel
theorem dX9_nearest_19 : decode cX9_nearest 19 = .ok (.iconst 1, 1) := by decide +kernel
theorem dX9_nearest_20 : decode cX9_nearest 20 = .ok (.if_icmp .ne 32, 3) := by decide +kernel
theorem dX9_nearest_23 : decode cX9_nearest 23 = .ok (.aload_n 0, 1) := by decide +kernel
theorem dX9_nearest_24 : decode cX9_nearest 24 = .ok (.aload_n 0, 1) := by decide +kernel
theorem dX9_nearest_25 : decode cX9_nearest 25 = .ok (.getfield 16, 3) := by decide +kernel
theorem dX9_nearest_28 : decode cX9_nearest 28 = .ok (.iload_n 1, 1) := by decide +kernel
theorem dX9_nearest_29 : decode cX9_nearest 29 = .ok (.iaload, 1) := by decide +kernel
theorem dX9_nearest_30 : decode cX9_nearest 30 = .ok (.iload_n 3, 1) := by decide +kernel
theorem dX9_nearest_31 : decode cX9_nearest 31 = .ok (.invokevirtual 132, 3) := by decide +kernel
theorem dX9_nearest_34 : decode cX9_nearest 34 = .ok (.iload_n 2, 1) := by decide +kernel
theorem dX9_nearest_35 : decode cX9_nearest 35 = .ok (.if_icmp .ge 17, 3) := by decide +kernel
theorem dX9_nearest_38 : decode cX9_nearest 38 = .ok (.aload_n 0, 1) := by decide +kernel
theorem dX9_nearest_39 : decode cX9_nearest 39 = .ok (.aload_n 0, 1) := by decide +kernel
theorem dX9_nearest_40 : decode cX9_nearest 40 = .ok (.getfield 16, 3) := by decide +kernel
theorem dX9_nearest_43 : decode cX9_nearest 43 = .ok (.iload_n 1, 1) := by decide +kernel
theorem dX9_nearest_44 : decode cX9_nearest 44 = .ok (.iaload, 1) := by decide +kernel
theorem dX9_nearest_45 : decode cX9_nearest 45 = .ok (.iload_n 3, 1) := by decide +kernel
theorem dX9_nearest_46 : decode cX9_nearest 46 = .ok (.invokevirtual 132, 3) := by decide +kernel
theorem dX9_nearest_49 : decode cX9_nearest 49 = .ok (.goto 4, 3) := by decide +kernel
theorem dX9_nearest_52 : decode cX9_nearest 52 = .ok (.iload_n 2, 1) := by decide +kernel
theorem dX9_nearest_53 : decode cX9_nearest 53 = .ok (.istore_n 2, 1) := by decide +kernel
theorem dX9_nearest_54 : decode cX9_nearest 54 = .ok (.iinc 3 1, 3) := by decide +kernel
theorem dX9_nearest_57 : decode cX9_nearest 57 = .ok (.goto (-52), 3) := by decide +kernel
theorem dX9_nearest_60 : decode cX9_nearest 60 = .ok (.iload_n 2, 1) := by decide +kernel
theorem dX9_nearest_61 : decode cX9_nearest 61 = .ok (.ireturn, 1) := by decide +kernel
theorem dX9_goer_0 : decode cX9_goer 0 = .ok (.bipush (-9), 2) := by decide +kernel
theorem dX9_goer_2 : decode cX9_goer 2 = .ok (.istore_n 1, 1) := by decide +kernel
theorem dX9_goer_3 : decode cX9_goer 3 = .ok (.iconst 0, 1) := by decide +kernel
theorem dX9_goer_4 : decode cX9_goer 4 = .ok (.istore_n 2, 1) := by decide +kernel
theorem dX9_goer_5 : decode cX9_goer 5 = .ok (.iload_n 2, 1) := by decide +kernel
theorem dX9_goer_6 : decode cX9_goer 6 = .ok (.aload_n 0, 1) := by decide +kernel
theorem dX9_goer_7 : decode cX9_goer 7 = .ok (.getfield 86, 3) := by decide +kernel
theorem dX9_goer_10 : decode cX9_goer 10 = .ok (.if_icmp .ge 47, 3) := by decide +kernel
theorem dX9_goer_13 : decode cX9_goer 13 = .ok (.aload_n 0, 1) := by decide +kernel
theorem dX9_goer_14 : decode cX9_goer 14 = .ok (.getfield 22, 3) := by decide +kernel
theorem dX9_goer_17 : decode cX9_goer 17 = .ok (.iload_n 2, 1) := by decide +kernel
theorem dX9_goer_18 : decode cX9_goer 18 = .ok (.iaload, 1) := by decide +kernel
theorem dX9_goer_19 : decode cX9_goer 19 = .ok (.iconst 1, 1) := by decide +kernel
theorem dX9_goer_20 : decode cX9_goer 20 = .ok (.if_icmp .ne 31, 3) := by decide +kernel
theorem dX9_goer_23 : decode cX9_goer 23 = .ok (.aload_n 0, 1) := by decide +kernel
theorem dX9_goer_24 : decode cX9_goer 24 = .ok (.getfield 74, 3) := by decide +kernel
theorem dX9_goer_27 : decode cX9_goer 27 = .ok (.iload_n 2, 1) := by decide +kernel
theorem dX9_goer_28 : decode cX9_goer 28 = .ok (.iaload, 1) := by decide +kernel
theorem dX9_goer_29 : decode cX9_goer 29 = .ok (.ifCond .ge 22, 3) := by decide +kernel
theorem dX9_goer_32 : decode cX9_goer 32 = .ok (.iload_n 1, 1) := by decide +kernel
theorem dX9_goer_33 : decode cX9_goer 33 = .ok (.ifCond .lt 16, 3) := by decide +kernel
theorem dX9_goer_36 : decode cX9_goer 36 = .ok (.aload_n 0, 1) := by decide +kernel
theorem dX9_goer_37 : decode cX9_goer 37 = .ok (.iload_n 2, 1) := by decide +kernel
theorem dX9_goer_38 : decode cX9_goer 38 = .ok (.invokevirtual 203, 3) := by decide +kernel
theorem dX9_goer_41 : decode cX9_goer 41 = .ok (.aload_n 0, 1) := by decide +kernel
theorem dX9_goer_42 : decode cX9_goer 42 = .ok (.iload_n 1, 1) := by decide +kernel
theorem dX9_goer_43 : decode cX9_goer 43 = .ok (.invokevirtual 203, 3) := by decide +kernel
theorem dX9_goer_46 : decode cX9_goer 46 = .ok (.if_icmp .lt 5, 3) := by decide +kernel
theorem dX9_goer_49 : decode cX9_goer 49 = .ok (.iload_n 2, 1) := by decide +kernel
theorem dX9_goer_50 : decode cX9_goer 50 = .ok (.istore_n 1, 1) := by decide +kernel
theorem dX9_goer_51 : decode cX9_goer 51 = .ok (.iinc 2 1, 3) := by decide +kernel
theorem dX9_goer_54 : decode cX9_goer 54 = .ok (.goto (-49), 3) := by decide +kernel
theorem dX9_goer_57 : decode cX9_goer 57 = .ok (.iload_n 1, 1) := by decide +kernel
theorem dX9_goer_58 : decode cX9_goer 58 = .ok (.ireturn, 1) := by decide +kernel
theorem dX9_ways_0 : decode cX9_ways 0 = .ok (.iconst 1, 1) := by decide +kernel
theorem dX9_ways_1 : decode cX9_ways 1 = .ok (.istore_n 2, 1) := by decide +kernel
theorem dX9_ways_2 : decode cX9_ways 2 = .ok (.aload_n 0, 1) := by decide +kernel
theorem dX9_ways_3 : decode cX9_ways 3 = .ok (.getfield 13, 3) := by decide +kernel
theorem dX9_ways_6 : decode cX9_ways 6 = .ok (.iload_n 1, 1) := by decide +kernel
theorem dX9_ways_7 : decode cX9_ways 7 = .ok (.iload_n 2, 1) := by decide +kernel
theorem dX9_ways_8 : decode cX9_ways 8 = .ok (.iadd, 1) := by decide +kernel
theorem dX9_ways_9 : decode cX9_ways 9 = .ok (.aload_n 0, 1) := by decide +kernel
theorem dX9_ways_10 : decode cX9_ways 10 = .ok (.getfield 43, 3) := by decide +kernel
theorem dX9_ways_13 : decode cX9_ways 13 = .ok (.irem, 1) := by decide +kernel
theorem dX9_ways_14 : decode cX9_ways 14 = .ok (.iaload, 1) := by decide +kernel
theorem dX9_ways_15 : decode cX9_ways 15 = .ok (.ifCond .ne 9, 3) := by decide +kernel
theorem dX9_ways_18 : decode cX9_ways 18 = .ok (.iinc 2 1, 3) := by decide +kernel
theorem dX9_ways_21 : decode cX9_ways 21 = .ok (.goto (-19), 3) := by decide +kernel
theorem dX9_ways_24 : decode cX9_ways 24 = .ok (.iconst 1, 1) := by decide +kernel
theorem dX9_ways_25 : decode cX9_ways 25 = .ok (.istore_n 3, 1) := by decide +kernel
theorem dX9_ways_26 : decode cX9_ways 26 = .ok (.aload_n 0, 1) := by decide +kernel
theorem dX9_ways_27 : decode cX9_ways 27 = .ok (.getfield 13, 3) := by decide +kernel
theorem dX9_ways_30 : decode cX9_ways 30 = .ok (.iload_n 1, 1) := by decide +kernel
theorem dX9_ways_31 : decode cX9_ways 31 = .ok (.iload_n 3, 1) := by decide +kernel
theorem dX9_ways_32 : decode cX9_ways 32 = .ok (.isub, 1) := by decide +kernel
theorem dX9_ways_33 : decode cX9_ways 33 = .ok (.aload_n 0, 1) := by decide +kernel
theorem dX9_ways_34 : decode cX9_ways 34 = .ok (.getfield 43, 3) := by decide +kernel
theorem dX9_ways_37 : decode cX9_ways 37 = .ok (.iadd, 1) := by decide +kernel
theorem dX9_ways_38 : decode cX9_ways 38 = .ok (.aload_n 0, 1) := by decide +kernel
theorem dX9_ways_39 : decode cX9_ways 39 = .ok (.getfield 43, 3) := by decide +kernel
theorem dX9_ways_42 : decode cX9_ways 42 = .ok (.irem, 1) := by decide +kernel
theorem dX9_ways_43 : decode cX9_ways 43 = .ok (.iaload, 1) := by decide +kernel
theorem dX9_ways_44 : decode cX9_ways 44 = .ok (.ifCond .ne 9, 3) := by decide +kernel
theorem dX9_ways_47 : decode cX9_ways 47 = .ok (.iinc 3 1, 3) := by decide +kernel
theorem dX9_ways_50 : decode cX9_ways 50 = .ok (.goto (-24), 3) := by decide +kernel
theorem dX9_ways_53 : decode cX9_ways 53 = .ok (.iload_n 2, 1) := by decide +kernel
theorem dX9_ways_54 : decode cX9_ways 54 = .ok (.iload_n 3, 1) := by decide +kernel
theorem dX9_ways_55 : decode cX9_ways 55 = .ok (.iadd, 1) := by decide +kernel
theorem dX9_ways_56 : decode cX9_ways 56 = .ok (.ireturn, 1) := by decide +kernel
theorem dX9_leaver_0 : decode cX9_leaver 0 = .ok (.bipush (-9), 2) := by decide +kernel
theorem dX9_leaver_2 : decode cX9_leaver 2 = .ok (.istore_n 1, 1) := by decide +kernel
theorem dX9_leaver_3 : decode cX9_leaver 3 = .ok (.iconst 0, 1) := by decide +kernel
theorem dX9_leaver_4 : decode cX9_leaver 4 = .ok (.istore_n 2, 1) := by decide +kernel
theorem dX9_leaver_5 : decode cX9_leaver 5 = .ok (.iload_n 2, 1) := by decide +kernel
theorem dX9_leaver_6 : decode cX9_leaver 6 = .ok (.aload_n 0, 1) := by decide +kernel
theorem dX9_leaver_7 : decode cX9_leaver 7 = .ok (.getfield 43, 3) := by decide +kernel
theorem dX9_leaver_10 : decode cX9_leaver 10 = .ok (.if_icmp .ge 56, 3) := by decide +kernel
theorem dX9_leaver_13 : decode cX9_leaver 13 = .ok (.aload_n 0, 1) := by decide +kernel
theorem dX9_leaver_14 : decode cX9_leaver 14 = .ok (.getfield 13, 3) := by decide +kernel
theorem dX9_leaver_17 : decode cX9_leaver 17 = .ok (.iload_n 2, 1) := by decide +kernel
theorem dX9_leaver_18 : decode cX9_leaver 18 = .ok (.iaload, 1) := by decide +kernel
theorem dX9_leaver_19 : decode cX9_leaver 19 = .ok (.ifCond .ne 6, 3) := by decide +kernel
theorem dX9_leaver_22 : decode cX9_leaver 22 = .ok (.goto 38, 3) := by decide +kernel
theorem dX9_leaver_25 : decode cX9_leaver 25 = .ok (.iload_n 1, 1) := by decide +kernel
theorem dX9_leaver_26 : decode cX9_leaver 26 = .ok (.ifCond .lt 32, 3) := by decide +kernel
theorem dX9_leaver_29 : decode cX9_leaver 29 = .ok (.aload_n 0, 1) := by decide +kernel
theorem dX9_leaver_30 : decode cX9_leaver 30 = .ok (.getfield 129, 3) := by decide +kernel
theorem dX9_leaver_33 : decode cX9_leaver 33 = .ok (.iconst 1, 1) := by decide +kernel
theorem dX9_leaver_34 : decode cX9_leaver 34 = .ok (.if_icmp .eq 24, 3) := by decide +kernel
theorem dX9_leaver_37 : decode cX9_leaver 37 = .ok (.aload_n 0, 1) := by decide +kernel
theorem dX9_leaver_38 : decode cX9_leaver 38 = .ok (.getfield 129, 3) := by decide +kernel
theorem dX9_leaver_41 : decode cX9_leaver 41 = .ok (.iconst 2, 1) := by decide +kernel
theorem dX9_leaver_42 : decode cX9_leaver 42 = .ok (.if_icmp .ne 18, 3) := by decide +kernel
theorem dX9_leaver_45 : decode cX9_leaver 45 = .ok (.aload_n 0, 1) := by decide +kernel
theorem dX9_leaver_46 : decode cX9_leaver 46 = .ok (.iload_n 2, 1) := by decide +kernel
theorem dX9_leaver_47 : decode cX9_leaver 47 = .ok (.invokevirtual 206, 3) := by decide +kernel
theorem dX9_leaver_50 : decode cX9_leaver 50 = .ok (.aload_n 0, 1) := by decide +kernel
theorem dX9_leaver_51 : decode cX9_leaver 51 = .ok (.iload_n 1, 1) := by decide +kernel
theorem dX9_leaver_52 : decode cX9_leaver 52 = .ok (.invokevirtual 206, 3) := by decide +kernel
theorem dX9_leaver_55 : decode cX9_leaver 55 = .ok (.if_icmp .ge 5, 3) := by decide +kernel
theorem dX9_leaver_58 : decode cX9_leaver 58 = .ok (.iload_n 2, 1) := by decide +kernel
theorem dX9_leaver_59 : decode cX9_leaver 59 = .ok (.istore_n 1, 1) := by decide +kernel
theorem dX9_leaver_60 : decode cX9_leaver 60 = .ok (.iinc 2 1, 3) := by decide +kernel
theorem dX9_leaver_63 : decode cX9_leaver 63 = .ok (.goto (-58), 3) := by decide +kernel
theorem dX9_leaver_66 : decode cX9_leaver 66 = .ok (.iload_n 1, 1) := by decide +kernel
theorem dX9_leaver_67 : decode cX9_leaver 67 = .ok (.ireturn, 1) := by decide +kernel
theorem dX9_stops_0 : decode cX9_stops 0 = .ok (.aload_n 0, 1) := by decide +kernel
theorem dX9_stops_1 : decode cX9_stops 1 = .ok (.invokevirtual 209, 3) := by decide +kernel
theorem dX9_stops_4 : decode cX9_stops 4 = .ok (.aload_n 0, 1) := by decide +kernel
theorem dX9_stops_5 : decode cX9_stops 5 = .ok (.invokevirtual 212, 3) := by decide +kernel
theorem dX9_stops_8 : decode cX9_stops 8 = .ok (.istore_n 1, 1) := by decide +kernel
theorem dX9_stops_9 : decode cX9_stops 9 = .ok (.iload_n 1, 1) := by decide +kernel
theorem dX9_stops_10 : decode cX9_stops 10 = .ok (.ifCond .lt 28, 3) := by decide +kernel
theorem dX9_stops_13 : decode cX9_stops 13 = .ok (.aload_n 0, 1) := by decide +kernel
theorem dX9_stops_14 : decode cX9_stops 14 = .ok (.getfield 22, 3) := by decide +kernel
theorem dX9_stops_17 : decode cX9_stops 17 = .ok (.iload_n 1, 1) := by decide +kernel
theorem dX9_stops_18 : decode cX9_stops 18 = .ok (.iconst 0, 1) := by decide +kernel
theorem dX9_stops_19 : decode cX9_stops 19 = .ok (.iastore, 1) := by decide +kernel
theorem dX9_stops_20 : decode cX9_stops 20 = .ok (.aload_n 0, 1) := by decide +kernel
theorem dX9_stops_21 : decode cX9_stops 21 = .ok (.invokevirtual 100, 3) := by decide +kernel
theorem dX9_stops_24 : decode cX9_stops 24 = .ok (.iconst 1, 1) := by decide +kernel
theorem dX9_stops_25 : decode cX9_stops 25 = .ok (.if_icmp .le 13, 3) := by decide +kernel
theorem dX9_stops_28 : decode cX9_stops 28 = .ok (.aload_n 0, 1) := by decide +kernel
theorem dX9_stops_29 : decode cX9_stops 29 = .ok (.getfield 13, 3) := by decide +kernel
theorem dX9_stops_32 : decode cX9_stops 32 = .ok (.aload_n 0, 1) := by decide +kernel
theorem dX9_stops_33 : decode cX9_stops 33 = .ok (.invokevirtual 215, 3) := by decide +kernel
theorem dX9_stops_36 : decode cX9_stops 36 = .ok (.iconst 0, 1) := by decide +kernel
theorem dX9_stops_37 : decode cX9_stops 37 = .ok (.iastore, 1) := by decide +kernel
theorem dX9_stops_38 : decode cX9_stops 38 = .ok (.aload_n 0, 1) := by decide +kernel
theorem dX9_stops_39 : decode cX9_stops 39 = .ok (.dup, 1) := by decide +kernel
theorem dX9_stops_40 : decode cX9_stops 40 = .ok (.getfield 187, 3) := by decide +kernel
theorem dX9_stops_43 : decode cX9_stops 43 = .ok (.iconst 1, 1) := by decide +kernel
theorem dX9_stops_44 : decode cX9_stops 44 = .ok (.iadd, 1) := by decide +kernel
theorem dX9_stops_45 : decode cX9_stops 45 = .ok (.putfield 187, 3) := by decide +kernel
theorem dX9_stops_48 : decode cX9_stops 48 = .ok (.aload_n 0, 1) := by decide +kernel
theorem dX9_stops_49 : decode cX9_stops 49 = .ok (.iconst 0, 1) := by decide +kernel
theorem dX9_stops_50 : decode cX9_stops 50 = .ok (.putfield 184, 3) := by decide +kernel
theorem dX9_stops_53 : decode cX9_stops 53 = .ok (.iload_n 1, 1) := by decide +kernel
theorem dX9_stops_54 : decode cX9_stops 54 = .ok (.ifCond .lt 11, 3) := by decide +kernel
theorem dX9_stops_57 : decode cX9_stops 57 = .ok (.aload_n 0, 1) := by decide +kernel
theorem dX9_stops_58 : decode cX9_stops 58 = .ok (.invokevirtual 218, 3) := by decide +kernel
theorem dX9_stops_61 : decode cX9_stops 61 = .ok (.iconst 1, 1) := by decide +kernel
theorem dX9_stops_62 : decode cX9_stops 62 = .ok (.if_icmp .ne 8, 3) := by decide +kernel
theorem dX9_stops_65 : decode cX9_stops 65 = .ok (.aload_n 0, 1) := by decide +kernel
theorem dX9_stops_66 : decode cX9_stops 66 = .ok (.iconst 1, 1) := by decide +kernel
theorem dX9_stops_67 : decode cX9_stops 67 = .ok (.putfield 89, 3) := by decide +kernel
theorem dX9_stops_70 : decode cX9_stops 70 = .ok (.iload_n 1, 1) := by decide +kernel
theorem dX9_stops_71 : decode cX9_stops 71 = .ok (.ireturn, 1) := by decide +kernel
theorem dX9_doesStop_0 : decode cX9_doesStop 0 = .ok (.aload_n 0, 1) := by decide +kernel
theorem dX9_doesStop_1 : decode cX9_doesStop 1 = .ok (.aload_n 0, 1) := by decide +kernel
theorem dX9_doesStop_2 : decode cX9_doesStop 2 = .ok (.getfield 50, 3) := by decide +kernel
theorem dX9_doesStop_5 : decode cX9_doesStop 5 = .ok (.ldc 221, 2) := by decide +kernel
theorem dX9_doesStop_7 : decode cX9_doesStop 7 = .ok (.imul, 1) := by decide +kernel
theorem dX9_doesStop_8 : decode cX9_doesStop 8 = .ok (.sipush 12345, 3) := by decide +kernel
theorem dX9_doesStop_11 : decode cX9_doesStop 11 = .ok (.iadd, 1) := by decide +kernel
theorem dX9_doesStop_12 : decode cX9_doesStop 12 = .ok (.putfield 50, 3) := by decide +kernel
theorem dX9_doesStop_15 : decode cX9_doesStop 15 = .ok (.aload_n 0, 1) := by decide +kernel
theorem dX9_doesStop_16 : decode cX9_doesStop 16 = .ok (.getfield 50, 3) := by decide +kernel
theorem dX9_doesStop_19 : decode cX9_doesStop 19 = .ok (.ldc 222, 2) := by decide +kernel
theorem dX9_doesStop_21 : decode cX9_doesStop 21 = .ok (.iand, 1) := by decide +kernel
theorem dX9_doesStop_22 : decode cX9_doesStop 22 = .ok (.ldc 223, 2) := by decide +kernel
theorem dX9_doesStop_24 : decode cX9_doesStop 24 = .ok (.idiv, 1) := by decide +kernel
theorem dX9_doesStop_25 : decode cX9_doesStop 25 = .ok (.bipush 100, 2) := by decide +kernel
theorem dX9_doesStop_27 : decode cX9_doesStop 27 = .ok (.irem, 1) := by decide +kernel
theorem dX9_doesStop_28 : decode cX9_doesStop 28 = .ok (.istore_n 1, 1) := by decide +kernel
theorem dX9_doesStop_29 : decode cX9_doesStop 29 = .ok (.aload_n 0, 1) := by decide +kernel
theorem dX9_doesStop_30 : decode cX9_doesStop 30 = .ok (.getfield 184, 3) := by decide +kernel
theorem dX9_doesStop_33 : decode cX9_doesStop 33 = .ok (.sipush 300, 3) := by decide +kernel
theorem dX9_doesStop_36 : decode cX9_doesStop 36 = .ok (.if_icmp .lt 5, 3) := by decide +kernel
theorem dX9_doesStop_39 : decode cX9_doesStop 39 = .ok (.iconst 1, 1) := by decide +kernel
theorem dX9_doesStop_40 : decode cX9_doesStop 40 = .ok (.ireturn, 1) := by decide +kernel
theorem dX9_doesStop_41 : decode cX9_doesStop 41 = .ok (.aload_n 0, 1) := by decide +kernel
theorem dX9_doesStop_42 : decode cX9_doesStop 42 = .ok (.getfield 126, 3) := by decide +kernel
theorem dX9_doesStop_45 : decode cX9_doesStop 45 = .ok (.tableswitch 138 1 4 #[31, 55, 80, 121], 31) := by decide +kernel
theorem dX9_doesStop_76 : decode cX9_doesStop 76 = .ok (.iload_n 1, 1) := by decide +kernel
theorem dX9_doesStop_77 : decode cX9_doesStop 77 = .ok (.aload_n 0, 1) := by decide +kernel
theorem dX9_doesStop_78 : decode cX9_doesStop 78 = .ok (.getfield 47, 3) := by decide +kernel
theorem dX9_doesStop_81 : decode cX9_doesStop 81 = .ok (.if_icmp .ge 17, 3) := by decide +kernel
theorem dX9_doesStop_84 : decode cX9_doesStop 84 = .ok (.aload_n 0, 1) := by decide +kernel
theorem dX9_doesStop_85 : decode cX9_doesStop 85 = .ok (.getfield 184, 3) := by decide +kernel
theorem dX9_doesStop_88 : decode cX9_doesStop 88 = .ok (.bipush 8, 2) := by decide +kernel
theorem dX9_doesStop_90 : decode cX9_doesStop 90 = .ok (.irem, 1) := by decide +kernel
theorem dX9_doesStop_91 : decode cX9_doesStop 91 = .ok (.ifCond .ne 7, 3) := by decide +kernel
theorem dX9_doesStop_94 : decode cX9_doesStop 94 = .ok (.iconst 1, 1) := by decide +kernel
theorem dX9_doesStop_95 : decode cX9_doesStop 95 = .ok (.goto 4, 3) := by decide +kernel
theorem dX9_doesStop_98 : decode cX9_doesStop 98 = .ok (.iconst 0, 1) := by decide +kernel
theorem dX9_doesStop_99 : decode cX9_doesStop 99 = .ok (.ireturn, 1) := by decide +kernel
theorem dX9_doesStop_100 : decode cX9_doesStop 100 = .ok (.iload_n 1, 1) := by decide +kernel
theorem dX9_doesStop_101 : decode cX9_doesStop 101 = .ok (.aload_n 0, 1) := by decide +kernel
theorem dX9_doesStop_102 : decode cX9_doesStop 102 = .ok (.getfield 47, 3) := by decide +kernel
theorem dX9_doesStop_105 : decode cX9_doesStop 105 = .ok (.if_icmp .ge 18, 3) := by decide +kernel
theorem dX9_doesStop_108 : decode cX9_doesStop 108 = .ok (.aload_n 0, 1) := by decide +kernel
theorem dX9_doesStop_109 : decode cX9_doesStop 109 = .ok (.getfield 184, 3) := by decide +kernel
theorem dX9_doesStop_112 : decode cX9_doesStop 112 = .ok (.aload_n 0, 1) := by decide +kernel
theorem dX9_doesStop_113 : decode cX9_doesStop 113 = .ok (.getfield 47, 3) := by decide +kernel
theorem dX9_doesStop_116 : decode cX9_doesStop 116 = .ok (.if_icmp .lt 7, 3) := by decide +kernel
theorem dX9_doesStop_119 : decode cX9_doesStop 119 = .ok (.iconst 1, 1) := by decide +kernel
theorem dX9_doesStop_120 : decode cX9_doesStop 120 = .ok (.goto 4, 3) := by decide +kernel
theorem dX9_doesStop_123 : decode cX9_doesStop 123 = .ok (.iconst 0, 1) := by decide +kernel
theorem dX9_doesStop_124 : decode cX9_doesStop 124 = .ok (.ireturn, 1) := by decide +kernel
theorem dX9_doesStop_125 : decode cX9_doesStop 125 = .ok (.aload_n 0, 1) := by decide +kernel
theorem dX9_doesStop_126 : decode cX9_doesStop 126 = .ok (.getfield 47, 3) := by decide +kernel
theorem dX9_doesStop_129 : decode cX9_doesStop 129 = .ok (.aload_n 0, 1) := by decide +kernel
theorem dX9_doesStop_130 : decode cX9_doesStop 130 = .ok (.getfield 86, 3) := by decide +kernel
theorem dX9_doesStop_133 : decode cX9_doesStop 133 = .ok (.irem, 1) := by decide +kernel
theorem dX9_doesStop_134 : decode cX9_doesStop 134 = .ok (.istore_n 2, 1) := by decide +kernel
theorem dX9_doesStop_135 : decode cX9_doesStop 135 = .ok (.aload_n 0, 1) := by decide +kernel
theorem dX9_doesStop_136 : decode cX9_doesStop 136 = .ok (.getfield 22, 3) := by decide +kernel
theorem dX9_doesStop_139 : decode cX9_doesStop 139 = .ok (.iload_n 2, 1) := by decide +kernel
theorem dX9_doesStop_140 : decode cX9_doesStop 140 = .ok (.iaload, 1) := by decide +kernel
theorem dX9_doesStop_141 : decode cX9_doesStop 141 = .ok (.iconst 1, 1) := by decide +kernel
theorem dX9_doesStop_142 : decode cX9_doesStop 142 = .ok (.if_icmp .ne 22, 3) := by decide +kernel
theorem dX9_doesStop_145 : decode cX9_doesStop 145 = .ok (.aload_n 0, 1) := by decide +kernel
theorem dX9_doesStop_146 : decode cX9_doesStop 146 = .ok (.getfield 13, 3) := by decide +kernel
theorem dX9_doesStop_149 : decode cX9_doesStop 149 = .ok (.aload_n 0, 1) := by decide +kernel
theorem dX9_doesStop_150 : decode cX9_doesStop 150 = .ok (.getfield 16, 3) := by decide +kernel
theorem dX9_doesStop_153 : decode cX9_doesStop 153 = .ok (.iload_n 2, 1) := by decide +kernel
theorem dX9_doesStop_154 : decode cX9_doesStop 154 = .ok (.iaload, 1) := by decide +kernel
theorem dX9_doesStop_155 : decode cX9_doesStop 155 = .ok (.iaload, 1) := by decide +kernel
theorem dX9_doesStop_156 : decode cX9_doesStop 156 = .ok (.iconst 1, 1) := by decide +kernel
theorem dX9_doesStop_157 : decode cX9_doesStop 157 = .ok (.if_icmp .ne 7, 3) := by decide +kernel
theorem dX9_doesStop_160 : decode cX9_doesStop 160 = .ok (.iconst 1, 1) := by decide +kernel
theorem dX9_doesStop_161 : decode cX9_doesStop 161 = .ok (.goto 4, 3) := by decide +kernel
theorem dX9_doesStop_164 : decode cX9_doesStop 164 = .ok (.iconst 0, 1) := by decide +kernel
theorem dX9_doesStop_165 : decode cX9_doesStop 165 = .ok (.ireturn, 1) := by decide +kernel
theorem dX9_doesStop_166 : decode cX9_doesStop 166 = .ok (.aload_n 0, 1) := by decide +kernel
theorem dX9_doesStop_167 : decode cX9_doesStop 167 = .ok (.getfield 184, 3) := by decide +kernel
theorem dX9_doesStop_170 : decode cX9_doesStop 170 = .ok (.aload_n 0, 1) := by decide +kernel
theorem dX9_doesStop_171 : decode cX9_doesStop 171 = .ok (.getfield 47, 3) := by decide +kernel
theorem dX9_doesStop_174 : decode cX9_doesStop 174 = .ok (.if_icmp .ne 7, 3) := by decide +kernel
theorem dX9_doesStop_177 : decode cX9_doesStop 177 = .ok (.iconst 1, 1) := by decide +kernel
theorem dX9_doesStop_178 : decode cX9_doesStop 178 = .ok (.goto 4, 3) := by decide +kernel
theorem dX9_doesStop_181 : decode cX9_doesStop 181 = .ok (.iconst 0, 1) := by decide +kernel
theorem dX9_doesStop_182 : decode cX9_doesStop 182 = .ok (.ireturn, 1) := by decide +kernel
theorem dX9_doesStop_183 : decode cX9_doesStop 183 = .ok (.iload_n 1, 1) := by decide +kernel
theorem dX9_doesStop_184 : decode cX9_doesStop 184 = .ok (.aload_n 0, 1) := by decide +kernel
theorem dX9_doesStop_185 : decode cX9_doesStop 185 = .ok (.getfield 47, 3) := by decide +kernel
theorem dX9_doesStop_188 : decode cX9_doesStop 188 = .ok (.if_icmp .ge 7, 3) := by decide +kernel
theorem dX9_doesStop_191 : decode cX9_doesStop 191 = .ok (.iconst 1, 1) := by decide +kernel
theorem dX9_doesStop_192 : decode cX9_doesStop 192 = .ok (.goto 4, 3) := by decide +kernel
theorem dX9_doesStop_195 : decode cX9_doesStop 195 = .ok (.iconst 0, 1) := by decide +kernel
theorem dX9_doesStop_196 : decode cX9_doesStop 196 = .ok (.ireturn, 1) := by decide +kernel
theorem dX9_goesOn_0 : decode cX9_goesOn 0 = .ok (.aload_n 0, 1) := by decide +kernel
theorem dX9_goesOn_1 : decode cX9_goesOn 1 = .ok (.invokevirtual 224, 3) := by decide +kernel
theorem dX9_goesOn_4 : decode cX9_goesOn 4 = .ok (.aload_n 0, 1) := by decide +kernel
theorem dX9_goesOn_5 : decode cX9_goesOn 5 = .ok (.dup, 1) := by decide +kernel
theorem dX9_goesOn_6 : decode cX9_goesOn 6 = .ok (.getfield 184, 3) := by decide +kernel
theorem dX9_goesOn_9 : decode cX9_goesOn 9 = .ok (.iconst 1, 1) := by decide +kernel
theorem dX9_goesOn_10 : decode cX9_goesOn 10 = .ok (.iadd, 1) := by decide +kernel
theorem dX9_goesOn_11 : decode cX9_goesOn 11 = .ok (.putfield 184, 3) := by decide +kernel
theorem dX9_goesOn_14 : decode cX9_goesOn 14 = .ok (.aload_n 0, 1) := by decide +kernel
theorem dX9_goesOn_15 : decode cX9_goesOn 15 = .ok (.invokevirtual 227, 3) := by decide +kernel
theorem dX9_goesOn_18 : decode cX9_goesOn 18 = .ok (.ifCond .ne 5, 3) := by decide +kernel
theorem dX9_goesOn_21 : decode cX9_goesOn 21 = .ok (.iconst 0, 1) := by decide +kernel
theorem dX9_goesOn_22 : decode cX9_goesOn 22 = .ok (.ireturn, 1) := by decide +kernel
theorem dX9_goesOn_23 : decode cX9_goesOn 23 = .ok (.aload_n 0, 1) := by decide +kernel
theorem dX9_goesOn_24 : decode cX9_goesOn 24 = .ok (.invokevirtual 230, 3) := by decide +kernel
theorem dX9_goesOn_27 : decode cX9_goesOn 27 = .ok (.pop, 1) := by decide +kernel
theorem dX9_goesOn_28 : decode cX9_goesOn 28 = .ok (.iconst 1, 1) := by decide +kernel
theorem dX9_goesOn_29 : decode cX9_goesOn 29 = .ok (.ireturn, 1) := by decide +kernel
theorem dX9_isOver_0 : decode cX9_isOver 0 = .ok (.aload_n 0, 1) := by decide +kernel
theorem dX9_isOver_1 : decode cX9_isOver 1 = .ok (.getfield 89, 3) := by decide +kernel
theorem dX9_isOver_4 : decode cX9_isOver 4 = .ok (.iconst 1, 1) := by decide +kernel
theorem dX9_isOver_5 : decode cX9_isOver 5 = .ok (.if_icmp .eq 18, 3) := by decide +kernel
theorem dX9_isOver_8 : decode cX9_isOver 8 = .ok (.aload_n 0, 1) := by decide +kernel
theorem dX9_isOver_9 : decode cX9_isOver 9 = .ok (.invokevirtual 218, 3) := by decide +kernel
theorem dX9_isOver_12 : decode cX9_isOver 12 = .ok (.iconst 2, 1) := by decide +kernel
theorem dX9_isOver_13 : decode cX9_isOver 13 = .ok (.if_icmp .lt 10, 3) := by decide +kernel
theorem dX9_isOver_16 : decode cX9_isOver 16 = .ok (.aload_n 0, 1) := by decide +kernel
theorem dX9_isOver_17 : decode cX9_isOver 17 = .ok (.invokevirtual 100, 3) := by decide +kernel
theorem dX9_isOver_20 : decode cX9_isOver 20 = .ok (.ifCond .ne 7, 3) := by decide +kernel
theorem dX9_isOver_23 : decode cX9_isOver 23 = .ok (.iconst 1, 1) := by decide +kernel
theorem dX9_isOver_24 : decode cX9_isOver 24 = .ok (.goto 4, 3) := by decide +kernel
theorem dX9_isOver_27 : decode cX9_isOver 27 = .ok (.iconst 0, 1) := by decide +kernel
theorem dX9_isOver_28 : decode cX9_isOver 28 = .ok (.ireturn, 1) := by decide +kernel
theorem dX9_go_0 : decode cX9_go 0 = .ok (.aload_n 0, 1) := by decide +kernel
theorem dX9_go_1 : decode cX9_go 1 = .ok (.invokevirtual 233, 3) := by decide +kernel
theorem dX9_go_4 : decode cX9_go 4 = .ok (.ifCond .eq 10, 3) := by decide +kernel
theorem dX9_go_7 : decode cX9_go 7 = .ok (.aload_n 0, 1) := by decide +kernel
theorem dX9_go_8 : decode cX9_go 8 = .ok (.bipush (-3), 2) := by decide +kernel
theorem dX9_go_10 : decode cX9_go 10 = .ok (.invokevirtual 96, 3) := by decide +kernel
theorem dX9_go_13 : decode cX9_go 13 = .ok (.ireturn, 1) := by decide +kernel
theorem dX9_go_14 : decode cX9_go 14 = .ok (.iload_n 1, 1) := by decide +kernel
theorem dX9_go_15 : decode cX9_go 15 = .ok (.iconst 1, 1) := by decide +kernel
theorem dX9_go_16 : decode cX9_go 16 = .ok (.sipush 300, 3) := by decide +kernel
theorem dX9_go_19 : decode cX9_go 19 = .ok (.invokestatic 112, 3) := by decide +kernel
theorem dX9_go_22 : decode cX9_go 22 = .ok (.istore_n 2, 1) := by decide +kernel
theorem dX9_go_23 : decode cX9_go 23 = .ok (.iload_n 2, 1) := by decide +kernel
theorem dX9_go_24 : decode cX9_go 24 = .ok (.ifCond .eq 9, 3) := by decide +kernel
theorem dX9_go_27 : decode cX9_go 27 = .ok (.aload_n 0, 1) := by decide +kernel
theorem dX9_go_28 : decode cX9_go 28 = .ok (.iload_n 2, 1) := by decide +kernel
theorem dX9_go_29 : decode cX9_go 29 = .ok (.invokevirtual 96, 3) := by decide +kernel
theorem dX9_go_32 : decode cX9_go 32 = .ok (.ireturn, 1) := by decide +kernel
theorem dX9_go_33 : decode cX9_go 33 = .ok (.iconst 0, 1) := by decide +kernel
theorem dX9_go_34 : decode cX9_go 34 = .ok (.istore_n 3, 1) := by decide +kernel
theorem dX9_go_35 : decode cX9_go 35 = .ok (.iload_n 3, 1) := by decide +kernel
theorem dX9_go_36 : decode cX9_go 36 = .ok (.iload_n 1, 1) := by decide +kernel
theorem dX9_go_37 : decode cX9_go 37 = .ok (.if_icmp .ge 30, 3) := by decide +kernel
theorem dX9_go_40 : decode cX9_go 40 = .ok (.aload_n 0, 1) := by decide +kernel
theorem dX9_go_41 : decode cX9_go 41 = .ok (.invokevirtual 236, 3) := by decide +kernel
theorem dX9_go_44 : decode cX9_go 44 = .ok (.ifCond .eq 17, 3) := by decide +kernel
theorem dX9_go_47 : decode cX9_go 47 = .ok (.aload_n 0, 1) := by decide +kernel
theorem dX9_go_48 : decode cX9_go 48 = .ok (.getfield 89, 3) := by decide +kernel
theorem dX9_go_51 : decode cX9_go 51 = .ok (.iconst 1, 1) := by decide +kernel
theorem dX9_go_52 : decode cX9_go 52 = .ok (.if_icmp .ne 7, 3) := by decide +kernel
theorem dX9_go_55 : decode cX9_go 55 = .ok (.iconst 2, 1) := by decide +kernel
theorem dX9_go_56 : decode cX9_go 56 = .ok (.goto 4, 3) := by decide +kernel
theorem dX9_go_59 : decode cX9_go 59 = .ok (.iconst 1, 1) := by decide +kernel
theorem dX9_go_60 : decode cX9_go 60 = .ok (.ireturn, 1) := by decide +kernel
theorem dX9_go_61 : decode cX9_go 61 = .ok (.iinc 3 1, 3) := by decide +kernel
theorem dX9_go_64 : decode cX9_go 64 = .ok (.goto (-29), 3) := by decide +kernel
theorem dX9_go_67 : decode cX9_go 67 = .ok (.iconst 0, 1) := by decide +kernel
theorem dX9_go_68 : decode cX9_go 68 = .ok (.ireturn, 1) := by decide +kernel
theorem dX9_stop_0 : decode cX9_stop 0 = .ok (.aload_n 0, 1) := by decide +kernel
theorem dX9_stop_1 : decode cX9_stop 1 = .ok (.invokevirtual 233, 3) := by decide +kernel
theorem dX9_stop_4 : decode cX9_stop 4 = .ok (.ifCond .eq 12, 3) := by decide +kernel
theorem dX9_stop_7 : decode cX9_stop 7 = .ok (.aload_n 0, 1) := by decide +kernel
theorem dX9_stop_8 : decode cX9_stop 8 = .ok (.bipush (-3), 2) := by decide +kernel
theorem dX9_stop_10 : decode cX9_stop 10 = .ok (.invokevirtual 96, 3) := by decide +kernel
theorem dX9_stop_13 : decode cX9_stop 13 = .ok (.goto 7, 3) := by decide +kernel
theorem dX9_stop_16 : decode cX9_stop 16 = .ok (.aload_n 0, 1) := by decide +kernel
theorem dX9_stop_17 : decode cX9_stop 17 = .ok (.invokevirtual 230, 3) := by decide +kernel
theorem dX9_stop_20 : decode cX9_stop 20 = .ok (.ireturn, 1) := by decide +kernel
theorem dX9_isThere_0 : decode cX9_isThere 0 = .ok (.aload_n 0, 1) := by decide +kernel
theorem dX9_isThere_1 : decode cX9_isThere 1 = .ok (.iload_n 1, 1) := by decide +kernel
theorem dX9_isThere_2 : decode cX9_isThere 2 = .ok (.invokevirtual 123, 3) := by decide +kernel
theorem dX9_isThere_5 : decode cX9_isThere 5 = .ok (.ifCond .eq 17, 3) := by decide +kernel
theorem dX9_isThere_8 : decode cX9_isThere 8 = .ok (.aload_n 0, 1) := by decide +kernel
theorem dX9_isThere_9 : decode cX9_isThere 9 = .ok (.getfield 22, 3) := by decide +kernel
theorem dX9_isThere_12 : decode cX9_isThere 12 = .ok (.iload_n 1, 1) := by decide +kernel
theorem dX9_isThere_13 : decode cX9_isThere 13 = .ok (.iaload, 1) := by decide +kernel
theorem dX9_isThere_14 : decode cX9_isThere 14 = .ok (.iconst 1, 1) := by decide +kernel
theorem dX9_isThere_15 : decode cX9_isThere 15 = .ok (.if_icmp .ne 7, 3) := by decide +kernel
theorem dX9_isThere_18 : decode cX9_isThere 18 = .ok (.iconst 1, 1) := by decide +kernel
theorem dX9_isThere_19 : decode cX9_isThere 19 = .ok (.goto 4, 3) := by decide +kernel
theorem dX9_isThere_22 : decode cX9_isThere 22 = .ok (.iconst 0, 1) := by decide +kernel
theorem dX9_isThere_23 : decode cX9_isThere 23 = .ok (.ireturn, 1) := by decide +kernel
theorem dX9_sits_0 : decode cX9_sits 0 = .ok (.aload_n 0, 1) := by decide +kernel
theorem dX9_sits_1 : decode cX9_sits 1 = .ok (.iload_n 1, 1) := by decide +kernel
theorem dX9_sits_2 : decode cX9_sits 2 = .ok (.invokevirtual 239, 3) := by decide +kernel
theorem dX9_sits_5 : decode cX9_sits 5 = .ok (.ifCond .ne 9, 3) := by decide +kernel
theorem dX9_sits_8 : decode cX9_sits 8 = .ok (.aload_n 0, 1) := by decide +kernel
theorem dX9_sits_9 : decode cX9_sits 9 = .ok (.iconst (-1), 1) := by decide +kernel
theorem dX9_sits_10 : decode cX9_sits 10 = .ok (.invokevirtual 96, 3) := by decide +kernel
theorem dX9_sits_13 : decode cX9_sits 13 = .ok (.ireturn, 1) := by decide +kernel
theorem dX9_sits_14 : decode cX9_sits 14 = .ok (.aload_n 0, 1) := by decide +kernel
theorem dX9_sits_15 : decode cX9_sits 15 = .ok (.invokevirtual 209, 3) := by decide +kernel
theorem dX9_sits_18 : decode cX9_sits 18 = .ok (.aload_n 0, 1) := by decide +kernel
theorem dX9_sits_19 : decode cX9_sits 19 = .ok (.getfield 74, 3) := by decide +kernel
theorem dX9_sits_22 : decode cX9_sits 22 = .ok (.iload_n 1, 1) := by decide +kernel
theorem dX9_sits_23 : decode cX9_sits 23 = .ok (.iaload, 1) := by decide +kernel
theorem dX9_sits_24 : decode cX9_sits 24 = .ok (.ifCond .ge 8, 3) := by decide +kernel
theorem dX9_sits_27 : decode cX9_sits 27 = .ok (.bipush (-9), 2) := by decide +kernel
theorem dX9_sits_29 : decode cX9_sits 29 = .ok (.goto 9, 3) := by decide +kernel
theorem dX9_sits_32 : decode cX9_sits 32 = .ok (.aload_n 0, 1) := by decide +kernel
theorem dX9_sits_33 : decode cX9_sits 33 = .ok (.getfield 74, 3) := by decide +kernel
theorem dX9_sits_36 : decode cX9_sits 36 = .ok (.iload_n 1, 1) := by decide +kernel
theorem dX9_sits_37 : decode cX9_sits 37 = .ok (.iaload, 1) := by decide +kernel
theorem dX9_sits_38 : decode cX9_sits 38 = .ok (.ireturn, 1) := by decide +kernel
theorem dX9_would_0 : decode cX9_would 0 = .ok (.iload_n 1, 1) := by decide +kernel
theorem dX9_would_1 : decode cX9_would 1 = .ok (.iconst 0, 1) := by decide +kernel
theorem dX9_would_2 : decode cX9_would 2 = .ok (.iconst 1, 1) := by decide +kernel
theorem dX9_would_3 : decode cX9_would 3 = .ok (.invokestatic 108, 3) := by decide +kernel
theorem dX9_would_6 : decode cX9_would 6 = .ok (.ifCond .ne 10, 3) := by decide +kernel
theorem dX9_would_9 : decode cX9_would 9 = .ok (.aload_n 0, 1) := by decide +kernel
theorem dX9_would_10 : decode cX9_would 10 = .ok (.bipush (-2), 2) := by decide +kernel
theorem dX9_would_12 : decode cX9_would 12 = .ok (.invokevirtual 96, 3) := by decide +kernel
theorem dX9_would_15 : decode cX9_would 15 = .ok (.ireturn, 1) := by decide +kernel
theorem dX9_would_16 : decode cX9_would 16 = .ok (.iload_n 1, 1) := by decide +kernel
theorem dX9_would_17 : decode cX9_would 17 = .ok (.iconst 1, 1) := by decide +kernel
theorem dX9_would_18 : decode cX9_would 18 = .ok (.if_icmp .ne 8, 3) := by decide +kernel
theorem dX9_would_21 : decode cX9_would 21 = .ok (.aload_n 0, 1) := by decide +kernel
theorem dX9_would_22 : decode cX9_would 22 = .ok (.invokevirtual 215, 3) := by decide +kernel
theorem dX9_would_25 : decode cX9_would 25 = .ok (.ireturn, 1) := by decide +kernel
theorem dX9_would_26 : decode cX9_would 26 = .ok (.aload_n 0, 1) := by decide +kernel
theorem dX9_would_27 : decode cX9_would 27 = .ok (.invokevirtual 209, 3) := by decide +kernel
theorem dX9_would_30 : decode cX9_would 30 = .ok (.aload_n 0, 1) := by decide +kernel
theorem dX9_would_31 : decode cX9_would 31 = .ok (.invokevirtual 212, 3) := by decide +kernel
theorem dX9_would_34 : decode cX9_would 34 = .ok (.ireturn, 1) := by decide +kernel
theorem dX9_findOdds_0 : decode cX9_findOdds 0 = .ok (.aload_n 0, 1) := by decide +kernel
theorem dX9_findOdds_1 : decode cX9_findOdds 1 = .ok (.iconst 1, 1) := by decide +kernel
theorem dX9_findOdds_2 : decode cX9_findOdds 2 = .ok (.iconst 1, 1) := by decide +kernel
theorem dX9_findOdds_3 : decode cX9_findOdds 3 = .ok (.invokevirtual 163, 3) := by decide +kernel
theorem dX9_findOdds_6 : decode cX9_findOdds 6 = .ok (.iconst 0, 1) := by decide +kernel
theorem dX9_findOdds_7 : decode cX9_findOdds 7 = .ok (.istore 4, 2) := by decide +kernel
theorem dX9_findOdds_9 : decode cX9_findOdds 9 = .ok (.iload 4, 2) := by decide +kernel
theorem dX9_findOdds_11 : decode cX9_findOdds 11 = .ok (.bipush 12, 2) := by decide +kernel
theorem dX9_findOdds_13 : decode cX9_findOdds 13 = .ok (.if_icmp .ge 17, 3) := by decide +kernel
theorem dX9_findOdds_16 : decode cX9_findOdds 16 = .ok (.aload_n 0, 1) := by decide +kernel
theorem dX9_findOdds_17 : decode cX9_findOdds 17 = .ok (.getfield 77, 3) := by decide +kernel
theorem dX9_findOdds_20 : decode cX9_findOdds 20 = .ok (.iload 4, 2) := by decide +kernel
theorem dX9_findOdds_22 : decode cX9_findOdds 22 = .ok (.iconst 0, 1) := by decide +kernel
theorem dX9_findOdds_23 : decode cX9_findOdds 23 = .ok (.iastore, 1) := by decide +kernel
theorem dX9_findOdds_24 : decode cX9_findOdds 24 = .ok (.iinc 4 1, 3) := by decide +kernel
theorem dX9_findOdds_27 : decode cX9_findOdds 27 = .ok (.goto (-18), 3) := by decide +kernel
theorem dX9_findOdds_30 : decode cX9_findOdds 30 = .ok (.aload_n 0, 1) := by decide +kernel
theorem dX9_findOdds_31 : decode cX9_findOdds 31 = .ok (.iconst 0, 1) := by decide +kernel
theorem dX9_findOdds_32 : decode cX9_findOdds 32 = .ok (.putfield 242, 3) := by decide +kernel
theorem dX9_findOdds_35 : decode cX9_findOdds 35 = .ok (.aload_n 0, 1) := by decide +kernel
theorem dX9_findOdds_36 : decode cX9_findOdds 36 = .ok (.iconst 0, 1) := by decide +kernel
theorem dX9_findOdds_37 : decode cX9_findOdds 37 = .ok (.putfield 245, 3) := by decide +kernel
theorem dX9_findOdds_40 : decode cX9_findOdds 40 = .ok (.iconst 0, 1) := by decide +kernel
theorem dX9_findOdds_41 : decode cX9_findOdds 41 = .ok (.istore 4, 2) := by decide +kernel
theorem dX9_findOdds_43 : decode cX9_findOdds 43 = .ok (.iload 4, 2) := by decide +kernel
theorem dX9_findOdds_45 : decode cX9_findOdds 45 = .ok (.iload_n 1, 1) := by decide +kernel
theorem dX9_findOdds_46 : decode cX9_findOdds 46 = .ok (.if_icmp .ge 145, 3) := by decide +kernel
theorem dX9_findOdds_49 : decode cX9_findOdds 49 = .ok (.aload_n 0, 1) := by decide +kernel
theorem dX9_findOdds_50 : decode cX9_findOdds 50 = .ok (.invokevirtual 224, 3) := by decide +kernel
theorem dX9_findOdds_53 : decode cX9_findOdds 53 = .ok (.aload_n 0, 1) := by decide +kernel
theorem dX9_findOdds_54 : decode cX9_findOdds 54 = .ok (.invokevirtual 209, 3) := by decide +kernel
theorem dX9_findOdds_57 : decode cX9_findOdds 57 = .ok (.iconst 0, 1) := by decide +kernel
theorem dX9_findOdds_58 : decode cX9_findOdds 58 = .ok (.istore 5, 2) := by decide +kernel
theorem dX9_findOdds_60 : decode cX9_findOdds 60 = .ok (.iload 5, 2) := by decide +kernel
theorem dX9_findOdds_62 : decode cX9_findOdds 62 = .ok (.aload_n 0, 1) := by decide +kernel
theorem dX9_findOdds_63 : decode cX9_findOdds 63 = .ok (.getfield 86, 3) := by decide +kernel
theorem dX9_findOdds_66 : decode cX9_findOdds 66 = .ok (.if_icmp .ge 34, 3) := by decide +kernel
theorem dX9_findOdds_69 : decode cX9_findOdds 69 = .ok (.aload_n 0, 1) := by decide +kernel
theorem dX9_findOdds_70 : decode cX9_findOdds 70 = .ok (.getfield 77, 3) := by decide +kernel
theorem dX9_findOdds_73 : decode cX9_findOdds 73 = .ok (.iload 5, 2) := by decide +kernel
theorem dX9_findOdds_75 : decode cX9_findOdds 75 = .ok (.dup2, 1) := by decide +kernel
theorem dX9_findOdds_76 : decode cX9_findOdds 76 = .ok (.iaload, 1) := by decide +kernel
theorem dX9_findOdds_77 : decode cX9_findOdds 77 = .ok (.aload_n 0, 1) := by decide +kernel
theorem dX9_findOdds_78 : decode cX9_findOdds 78 = .ok (.getfield 74, 3) := by decide +kernel
theorem dX9_findOdds_81 : decode cX9_findOdds 81 = .ok (.iload 5, 2) := by decide +kernel
theorem dX9_findOdds_83 : decode cX9_findOdds 83 = .ok (.iaload, 1) := by decide +kernel
theorem dX9_findOdds_84 : decode cX9_findOdds 84 = .ok (.ifCond .lt 7, 3) := by decide +kernel
theorem dX9_findOdds_87 : decode cX9_findOdds 87 = .ok (.iconst 1, 1) := by decide +kernel
theorem dX9_findOdds_88 : decode cX9_findOdds 88 = .ok (.goto 4, 3) := by decide +kernel
theorem dX9_findOdds_91 : decode cX9_findOdds 91 = .ok (.iconst 0, 1) := by decide +kernel
theorem dX9_findOdds_92 : decode cX9_findOdds 92 = .ok (.iadd, 1) := by decide +kernel
theorem dX9_findOdds_93 : decode cX9_findOdds 93 = .ok (.iastore, 1) := by decide +kernel
theorem dX9_findOdds_94 : decode cX9_findOdds 94 = .ok (.iinc 5 1, 3) := by decide +kernel
theorem dX9_findOdds_97 : decode cX9_findOdds 97 = .ok (.goto (-37), 3) := by decide +kernel
theorem dX9_findOdds_100 : decode cX9_findOdds 100 = .ok (.iload_n 2, 1) := by decide +kernel
theorem dX9_findOdds_101 : decode cX9_findOdds 101 = .ok (.ifCond .ge 6, 3) := by decide +kernel
theorem dX9_findOdds_104 : decode cX9_findOdds 104 = .ok (.goto 81, 3) := by decide +kernel
theorem dX9_findOdds_107 : decode cX9_findOdds 107 = .ok (.aload_n 0, 1) := by decide +kernel
theorem dX9_findOdds_108 : decode cX9_findOdds 108 = .ok (.dup, 1) := by decide +kernel
theorem dX9_findOdds_109 : decode cX9_findOdds 109 = .ok (.getfield 242, 3) := by decide +kernel
theorem dX9_findOdds_112 : decode cX9_findOdds 112 = .ok (.aload_n 0, 1) := by decide +kernel
theorem dX9_findOdds_113 : decode cX9_findOdds 113 = .ok (.getfield 74, 3) := by decide +kernel
theorem dX9_findOdds_116 : decode cX9_findOdds 116 = .ok (.iload_n 2, 1) := by decide +kernel
theorem dX9_findOdds_117 : decode cX9_findOdds 117 = .ok (.iaload, 1) := by decide +kernel
theorem dX9_findOdds_118 : decode cX9_findOdds 118 = .ok (.ifCond .ge 12, 3) := by decide +kernel
theorem dX9_findOdds_121 : decode cX9_findOdds 121 = .ok (.aload_n 0, 1) := by decide +kernel
theorem dX9_findOdds_122 : decode cX9_findOdds 122 = .ok (.getfield 74, 3) := by decide +kernel
theorem dX9_findOdds_125 : decode cX9_findOdds 125 = .ok (.iload_n 3, 1) := by decide +kernel
theorem dX9_findOdds_126 : decode cX9_findOdds 126 = .ok (.iaload, 1) := by decide +kernel
theorem dX9_findOdds_127 : decode cX9_findOdds 127 = .ok (.ifCond .lt 7, 3) := by decide +kernel
theorem dX9_findOdds_130 : decode cX9_findOdds 130 = .ok (.iconst 1, 1) := by decide +kernel
theorem dX9_findOdds_131 : decode cX9_findOdds 131 = .ok (.goto 4, 3) := by decide +kernel
theorem dX9_findOdds_134 : decode cX9_findOdds 134 = .ok (.iconst 0, 1) := by decide +kernel
theorem dX9_findOdds_135 : decode cX9_findOdds 135 = .ok (.iadd, 1) := by decide +kernel
theorem dX9_findOdds_136 : decode cX9_findOdds 136 = .ok (.putfield 242, 3) := by decide +kernel
theorem dX9_findOdds_139 : decode cX9_findOdds 139 = .ok (.aload_n 0, 1) := by decide +kernel
theorem dX9_findOdds_140 : decode cX9_findOdds 140 = .ok (.dup, 1) := by decide +kernel
theorem dX9_findOdds_141 : decode cX9_findOdds 141 = .ok (.getfield 245, 3) := by decide +kernel
theorem dX9_findOdds_144 : decode cX9_findOdds 144 = .ok (.aload_n 0, 1) := by decide +kernel
theorem dX9_findOdds_145 : decode cX9_findOdds 145 = .ok (.getfield 74, 3) := by decide +kernel
theorem dX9_findOdds_148 : decode cX9_findOdds 148 = .ok (.iload_n 3, 1) := by decide +kernel
theorem dX9_findOdds_149 : decode cX9_findOdds 149 = .ok (.iaload, 1) := by decide +kernel
theorem dX9_findOdds_150 : decode cX9_findOdds 150 = .ok (.ifCond .ge 26, 3) := by decide +kernel
theorem dX9_findOdds_153 : decode cX9_findOdds 153 = .ok (.aload_n 0, 1) := by decide +kernel
theorem dX9_findOdds_154 : decode cX9_findOdds 154 = .ok (.getfield 74, 3) := by decide +kernel
theorem dX9_findOdds_157 : decode cX9_findOdds 157 = .ok (.iload_n 2, 1) := by decide +kernel
theorem dX9_findOdds_158 : decode cX9_findOdds 158 = .ok (.iaload, 1) := by decide +kernel
theorem dX9_findOdds_159 : decode cX9_findOdds 159 = .ok (.ifCond .lt 21, 3) := by decide +kernel
theorem dX9_findOdds_162 : decode cX9_findOdds 162 = .ok (.aload_n 0, 1) := by decide +kernel
theorem dX9_findOdds_163 : decode cX9_findOdds 163 = .ok (.iload_n 3, 1) := by decide +kernel
theorem dX9_findOdds_164 : decode cX9_findOdds 164 = .ok (.aload_n 0, 1) := by decide +kernel
theorem dX9_findOdds_165 : decode cX9_findOdds 165 = .ok (.getfield 74, 3) := by decide +kernel
theorem dX9_findOdds_168 : decode cX9_findOdds 168 = .ok (.iload_n 2, 1) := by decide +kernel
theorem dX9_findOdds_169 : decode cX9_findOdds 169 = .ok (.iaload, 1) := by decide +kernel
theorem dX9_findOdds_170 : decode cX9_findOdds 170 = .ok (.invokevirtual 193, 3) := by decide +kernel
theorem dX9_findOdds_173 : decode cX9_findOdds 173 = .ok (.ifCond .eq 7, 3) := by decide +kernel
theorem dX9_findOdds_176 : decode cX9_findOdds 176 = .ok (.iconst 1, 1) := by decide +kernel
theorem dX9_findOdds_177 : decode cX9_findOdds 177 = .ok (.goto 4, 3) := by decide +kernel
theorem dX9_findOdds_180 : decode cX9_findOdds 180 = .ok (.iconst 0, 1) := by decide +kernel
theorem dX9_findOdds_181 : decode cX9_findOdds 181 = .ok (.iadd, 1) := by decide +kernel
theorem dX9_findOdds_182 : decode cX9_findOdds 182 = .ok (.putfield 245, 3) := by decide +kernel
theorem dX9_findOdds_185 : decode cX9_findOdds 185 = .ok (.iinc 4 1, 3) := by decide +kernel
theorem dX9_findOdds_188 : decode cX9_findOdds 188 = .ok (.goto (-145), 3) := by decide +kernel
theorem dX9_findOdds_191 : decode cX9_findOdds 191 = .ok (.aload_n 0, 1) := by decide +kernel
theorem dX9_findOdds_192 : decode cX9_findOdds 192 = .ok (.iconst 1, 1) := by decide +kernel
theorem dX9_findOdds_193 : decode cX9_findOdds 193 = .ok (.iconst 0, 1) := by decide +kernel
theorem dX9_findOdds_194 : decode cX9_findOdds 194 = .ok (.invokevirtual 163, 3) := by decide +kernel
theorem dX9_findOdds_197 : decode cX9_findOdds 197 = .ok (.return_, 1) := by decide +kernel
theorem dX9_oddsOf_0 : decode cX9_oddsOf 0 = .ok (.aload_n 0, 1) := by decide +kernel
theorem dX9_oddsOf_1 : decode cX9_oddsOf 1 = .ok (.iload_n 2, 1) := by decide +kernel
theorem dX9_oddsOf_2 : decode cX9_oddsOf 2 = .ok (.iconst (-1), 1) := by decide +kernel
theorem dX9_oddsOf_3 : decode cX9_oddsOf 3 = .ok (.iconst (-1), 1) := by decide +kernel
theorem dX9_oddsOf_4 : decode cX9_oddsOf 4 = .ok (.invokevirtual 248, 3) := by decide +kernel
theorem dX9_oddsOf_7 : decode cX9_oddsOf 7 = .ok (.aload_n 0, 1) := by decide +kernel
theorem dX9_oddsOf_8 : decode cX9_oddsOf 8 = .ok (.getfield 77, 3) := by decide +kernel
theorem dX9_oddsOf_11 : decode cX9_oddsOf 11 = .ok (.iload_n 1, 1) := by decide +kernel
theorem dX9_oddsOf_12 : decode cX9_oddsOf 12 = .ok (.iaload, 1) := by decide +kernel
theorem dX9_oddsOf_13 : decode cX9_oddsOf 13 = .ok (.ireturn, 1) := by decide +kernel
theorem dX9_notOdds_0 : decode cX9_notOdds 0 = .ok (.aload_n 0, 1) := by decide +kernel
theorem dX9_notOdds_1 : decode cX9_notOdds 1 = .ok (.iload_n 1, 1) := by decide +kernel
theorem dX9_notOdds_2 : decode cX9_notOdds 2 = .ok (.invokevirtual 239, 3) := by decide +kernel
theorem dX9_notOdds_5 : decode cX9_notOdds 5 = .ok (.ifCond .ne 7, 3) := by decide +kernel
theorem dX9_notOdds_8 : decode cX9_notOdds 8 = .ok (.iconst (-1), 1) := by decide +kernel
theorem dX9_notOdds_9 : decode cX9_notOdds 9 = .ok (.goto 11, 3) := by decide +kernel
theorem dX9_notOdds_12 : decode cX9_notOdds 12 = .ok (.iload_n 2, 1) := by decide +kernel
theorem dX9_notOdds_13 : decode cX9_notOdds 13 = .ok (.iconst 1, 1) := by decide +kernel
theorem dX9_notOdds_14 : decode cX9_notOdds 14 = .ok (.sipush 200, 3) := by decide +kernel
theorem dX9_notOdds_17 : decode cX9_notOdds 17 = .ok (.invokestatic 112, 3) := by decide +kernel
theorem dX9_notOdds_20 : decode cX9_notOdds 20 = .ok (.ireturn, 1) := by decide +kernel
theorem dX9_odds_0 : decode cX9_odds 0 = .ok (.aload_n 0, 1) := by decide +kernel
theorem dX9_odds_1 : decode cX9_odds 1 = .ok (.iload_n 1, 1) := by decide +kernel
theorem dX9_odds_2 : decode cX9_odds 2 = .ok (.iload_n 2, 1) := by decide +kernel
theorem dX9_odds_3 : decode cX9_odds 3 = .ok (.invokevirtual 251, 3) := by decide +kernel
theorem dX9_odds_6 : decode cX9_odds 6 = .ok (.istore_n 3, 1) := by decide +kernel
theorem dX9_odds_7 : decode cX9_odds 7 = .ok (.iload_n 3, 1) := by decide +kernel
theorem dX9_odds_8 : decode cX9_odds 8 = .ok (.ifCond .eq 11, 3) := by decide +kernel
theorem dX9_odds_11 : decode cX9_odds 11 = .ok (.aload_n 0, 1) := by decide +kernel
theorem dX9_odds_12 : decode cX9_odds 12 = .ok (.iload_n 3, 1) := by decide +kernel
theorem dX9_odds_13 : decode cX9_odds 13 = .ok (.invokevirtual 96, 3) := by decide +kernel
theorem dX9_odds_16 : decode cX9_odds 16 = .ok (.goto 9, 3) := by decide +kernel
theorem dX9_odds_19 : decode cX9_odds 19 = .ok (.aload_n 0, 1) := by decide +kernel
theorem dX9_odds_20 : decode cX9_odds 20 = .ok (.iload_n 1, 1) := by decide +kernel
theorem dX9_odds_21 : decode cX9_odds 21 = .ok (.iload_n 2, 1) := by decide +kernel
theorem dX9_odds_22 : decode cX9_odds 22 = .ok (.invokevirtual 254, 3) := by decide +kernel
theorem dX9_odds_25 : decode cX9_odds 25 = .ok (.ireturn, 1) := by decide +kernel
theorem dX9_fair_0 : decode cX9_fair 0 = .ok (.iload_n 1, 1) := by decide +kernel
theorem dX9_fair_1 : decode cX9_fair 1 = .ok (.iconst 1, 1) := by decide +kernel
theorem dX9_fair_2 : decode cX9_fair 2 = .ok (.sipush 200, 3) := by decide +kernel
theorem dX9_fair_5 : decode cX9_fair 5 = .ok (.invokestatic 112, 3) := by decide +kernel
theorem dX9_fair_8 : decode cX9_fair 8 = .ok (.istore_n 2, 1) := by decide +kernel
theorem dX9_fair_9 : decode cX9_fair 9 = .ok (.iload_n 2, 1) := by decide +kernel
theorem dX9_fair_10 : decode cX9_fair 10 = .ok (.ifCond .eq 9, 3) := by decide +kernel
theorem dX9_fair_13 : decode cX9_fair 13 = .ok (.aload_n 0, 1) := by decide +kernel
theorem dX9_fair_14 : decode cX9_fair 14 = .ok (.iload_n 2, 1) := by decide +kernel
theorem dX9_fair_15 : decode cX9_fair 15 = .ok (.invokevirtual 96, 3) := by decide +kernel
theorem dX9_fair_18 : decode cX9_fair 18 = .ok (.ireturn, 1) := by decide +kernel
theorem dX9_fair_19 : decode cX9_fair 19 = .ok (.aload_n 0, 1) := by decide +kernel
theorem dX9_fair_20 : decode cX9_fair 20 = .ok (.iload_n 1, 1) := by decide +kernel
theorem dX9_fair_21 : decode cX9_fair 21 = .ok (.iconst (-1), 1) := by decide +kernel
theorem dX9_fair_22 : decode cX9_fair 22 = .ok (.iconst (-1), 1) := by decide +kernel
theorem dX9_fair_23 : decode cX9_fair 23 = .ok (.invokevirtual 248, 3) := by decide +kernel
theorem dX9_fair_26 : decode cX9_fair 26 = .ok (.iconst (-1), 1) := by decide +kernel
theorem dX9_fair_27 : decode cX9_fair 27 = .ok (.istore_n 3, 1) := by decide +kernel
theorem dX9_fair_28 : decode cX9_fair 28 = .ok (.iconst 0, 1) := by decide +kernel
theorem dX9_fair_29 : decode cX9_fair 29 = .ok (.istore 4, 2) := by decide +kernel
theorem dX9_fair_31 : decode cX9_fair 31 = .ok (.iconst 0, 1) := by decide +kernel
theorem dX9_fair_32 : decode cX9_fair 32 = .ok (.istore 5, 2) := by decide +kernel
theorem dX9_fair_34 : decode cX9_fair 34 = .ok (.iload 5, 2) := by decide +kernel
theorem dX9_fair_36 : decode cX9_fair 36 = .ok (.aload_n 0, 1) := by decide +kernel
theorem dX9_fair_37 : decode cX9_fair 37 = .ok (.getfield 86, 3) := by decide +kernel
theorem dX9_fair_40 : decode cX9_fair 40 = .ok (.if_icmp .ge 75, 3) := by decide +kernel
theorem dX9_fair_43 : decode cX9_fair 43 = .ok (.aload_n 0, 1) := by decide +kernel
theorem dX9_fair_44 : decode cX9_fair 44 = .ok (.getfield 22, 3) := by decide +kernel
theorem dX9_fair_47 : decode cX9_fair 47 = .ok (.iload 5, 2) := by decide +kernel
theorem dX9_fair_49 : decode cX9_fair 49 = .ok (.iaload, 1) := by decide +kernel
theorem dX9_fair_50 : decode cX9_fair 50 = .ok (.ifCond .ne 6, 3) := by decide +kernel
theorem dX9_fair_53 : decode cX9_fair 53 = .ok (.goto 56, 3) := by decide +kernel
theorem dX9_fair_56 : decode cX9_fair 56 = .ok (.iload_n 3, 1) := by decide +kernel
theorem dX9_fair_57 : decode cX9_fair 57 = .ok (.ifCond .lt 15, 3) := by decide +kernel
theorem dX9_fair_60 : decode cX9_fair 60 = .ok (.aload_n 0, 1) := by decide +kernel
theorem dX9_fair_61 : decode cX9_fair 61 = .ok (.getfield 77, 3) := by decide +kernel
theorem dX9_fair_64 : decode cX9_fair 64 = .ok (.iload 5, 2) := by decide +kernel
theorem dX9_fair_66 : decode cX9_fair 66 = .ok (.iaload, 1) := by decide +kernel
theorem dX9_fair_67 : decode cX9_fair 67 = .ok (.iload 4, 2) := by decide +kernel
theorem dX9_fair_69 : decode cX9_fair 69 = .ok (.if_icmp .ge 13, 3) := by decide +kernel
theorem dX9_fair_72 : decode cX9_fair 72 = .ok (.aload_n 0, 1) := by decide +kernel
theorem dX9_fair_73 : decode cX9_fair 73 = .ok (.getfield 77, 3) := by decide +kernel
theorem dX9_fair_76 : decode cX9_fair 76 = .ok (.iload 5, 2) := by decide +kernel
theorem dX9_fair_78 : decode cX9_fair 78 = .ok (.iaload, 1) := by decide +kernel
theorem dX9_fair_79 : decode cX9_fair 79 = .ok (.goto 5, 3) := by decide +kernel
theorem dX9_fair_82 : decode cX9_fair 82 = .ok (.iload 4, 2) := by decide +kernel
theorem dX9_fair_84 : decode cX9_fair 84 = .ok (.istore 4, 2) := by decide +kernel
theorem dX9_fair_86 : decode cX9_fair 86 = .ok (.aload_n 0, 1) := by decide +kernel
theorem dX9_fair_87 : decode cX9_fair 87 = .ok (.getfield 77, 3) := by decide +kernel
theorem dX9_fair_90 : decode cX9_fair 90 = .ok (.iload 5, 2) := by decide +kernel
theorem dX9_fair_92 : decode cX9_fair 92 = .ok (.iaload, 1) := by decide +kernel
theorem dX9_fair_93 : decode cX9_fair 93 = .ok (.iload_n 3, 1) := by decide +kernel
theorem dX9_fair_94 : decode cX9_fair 94 = .ok (.if_icmp .le 13, 3) := by decide +kernel
theorem dX9_fair_97 : decode cX9_fair 97 = .ok (.aload_n 0, 1) := by decide +kernel
theorem dX9_fair_98 : decode cX9_fair 98 = .ok (.getfield 77, 3) := by decide +kernel
theorem dX9_fair_101 : decode cX9_fair 101 = .ok (.iload 5, 2) := by decide +kernel
theorem dX9_fair_103 : decode cX9_fair 103 = .ok (.iaload, 1) := by decide +kernel
theorem dX9_fair_104 : decode cX9_fair 104 = .ok (.goto 4, 3) := by decide +kernel
theorem dX9_fair_107 : decode cX9_fair 107 = .ok (.iload_n 3, 1) := by decide +kernel
theorem dX9_fair_108 : decode cX9_fair 108 = .ok (.istore_n 3, 1) := by decide +kernel
theorem dX9_fair_109 : decode cX9_fair 109 = .ok (.iinc 5 1, 3) := by decide +kernel
theorem dX9_fair_112 : decode cX9_fair 112 = .ok (.goto (-78), 3) := by decide +kernel
theorem dX9_fair_115 : decode cX9_fair 115 = .ok (.iload_n 3, 1) := by decide +kernel
theorem dX9_fair_116 : decode cX9_fair 116 = .ok (.ifCond .ge 7, 3) := by decide +kernel
theorem dX9_fair_119 : decode cX9_fair 119 = .ok (.iconst 0, 1) := by decide +kernel
theorem dX9_fair_120 : decode cX9_fair 120 = .ok (.goto 7, 3) := by decide +kernel
theorem dX9_fair_123 : decode cX9_fair 123 = .ok (.iload_n 3, 1) := by decide +kernel
theorem dX9_fair_124 : decode cX9_fair 124 = .ok (.iload 4, 2) := by decide +kernel
theorem dX9_fair_126 : decode cX9_fair 126 = .ok (.isub, 1) := by decide +kernel
theorem dX9_fair_127 : decode cX9_fair 127 = .ok (.ireturn, 1) := by decide +kernel
theorem dX9_oddsBy_0 : decode cX9_oddsBy 0 = .ok (.aload_n 0, 1) := by decide +kernel
theorem dX9_oddsBy_1 : decode cX9_oddsBy 1 = .ok (.getfield 31, 3) := by decide +kernel
theorem dX9_oddsBy_4 : decode cX9_oddsBy 4 = .ok (.iload_n 1, 1) := by decide +kernel
theorem dX9_oddsBy_5 : decode cX9_oddsBy 5 = .ok (.iaload, 1) := by decide +kernel
theorem dX9_oddsBy_6 : decode cX9_oddsBy 6 = .ok (.istore 4, 2) := by decide +kernel
theorem dX9_oddsBy_8 : decode cX9_oddsBy 8 = .ok (.aload_n 0, 1) := by decide +kernel
theorem dX9_oddsBy_9 : decode cX9_oddsBy 9 = .ok (.getfield 31, 3) := by decide +kernel
theorem dX9_oddsBy_12 : decode cX9_oddsBy 12 = .ok (.iload_n 1, 1) := by decide +kernel
theorem dX9_oddsBy_13 : decode cX9_oddsBy 13 = .ok (.iload_n 2, 1) := by decide +kernel
theorem dX9_oddsBy_14 : decode cX9_oddsBy 14 = .ok (.iastore, 1) := by decide +kernel
theorem dX9_oddsBy_15 : decode cX9_oddsBy 15 = .ok (.aload_n 0, 1) := by decide +kernel
theorem dX9_oddsBy_16 : decode cX9_oddsBy 16 = .ok (.iload_n 1, 1) := by decide +kernel
theorem dX9_oddsBy_17 : decode cX9_oddsBy 17 = .ok (.iload_n 3, 1) := by decide +kernel
theorem dX9_oddsBy_18 : decode cX9_oddsBy 18 = .ok (.invokevirtual 254, 3) := by decide +kernel
theorem dX9_oddsBy_21 : decode cX9_oddsBy 21 = .ok (.istore 5, 2) := by decide +kernel
theorem dX9_oddsBy_23 : decode cX9_oddsBy 23 = .ok (.aload_n 0, 1) := by decide +kernel
theorem dX9_oddsBy_24 : decode cX9_oddsBy 24 = .ok (.getfield 31, 3) := by decide +kernel
theorem dX9_oddsBy_27 : decode cX9_oddsBy 27 = .ok (.iload_n 1, 1) := by decide +kernel
theorem dX9_oddsBy_28 : decode cX9_oddsBy 28 = .ok (.iload 4, 2) := by decide +kernel
theorem dX9_oddsBy_30 : decode cX9_oddsBy 30 = .ok (.iastore, 1) := by decide +kernel
theorem dX9_oddsBy_31 : decode cX9_oddsBy 31 = .ok (.iload 5, 2) := by decide +kernel
theorem dX9_oddsBy_33 : decode cX9_oddsBy 33 = .ok (.ireturn, 1) := by decide +kernel
theorem dX9_bestSlow_0 : decode cX9_bestSlow 0 = .ok (.aload_n 0, 1) := by decide +kernel
theorem dX9_bestSlow_1 : decode cX9_bestSlow 1 = .ok (.iload_n 1, 1) := by decide +kernel
theorem dX9_bestSlow_2 : decode cX9_bestSlow 2 = .ok (.iload_n 2, 1) := by decide +kernel
theorem dX9_bestSlow_3 : decode cX9_bestSlow 3 = .ok (.invokevirtual 251, 3) := by decide +kernel
theorem dX9_bestSlow_6 : decode cX9_bestSlow 6 = .ok (.istore_n 3, 1) := by decide +kernel
theorem dX9_bestSlow_7 : decode cX9_bestSlow 7 = .ok (.iload_n 3, 1) := by decide +kernel
theorem dX9_bestSlow_8 : decode cX9_bestSlow 8 = .ok (.ifCond .eq 9, 3) := by decide +kernel
theorem dX9_bestSlow_11 : decode cX9_bestSlow 11 = .ok (.aload_n 0, 1) := by decide +kernel
theorem dX9_bestSlow_12 : decode cX9_bestSlow 12 = .ok (.iload_n 3, 1) := by decide +kernel
theorem dX9_bestSlow_13 : decode cX9_bestSlow 13 = .ok (.invokevirtual 96, 3) := by decide +kernel
theorem dX9_bestSlow_16 : decode cX9_bestSlow 16 = .ok (.ireturn, 1) := by decide +kernel
theorem dX9_bestSlow_17 : decode cX9_bestSlow 17 = .ok (.iconst 0, 1) := by decide +kernel
theorem dX9_bestSlow_18 : decode cX9_bestSlow 18 = .ok (.istore 4, 2) := by decide +kernel
theorem dX9_bestSlow_20 : decode cX9_bestSlow 20 = .ok (.iconst (-1), 1) := by decide +kernel
theorem dX9_bestSlow_21 : decode cX9_bestSlow 21 = .ok (.istore 5, 2) := by decide +kernel
theorem dX9_bestSlow_23 : decode cX9_bestSlow 23 = .ok (.bipush 10, 2) := by decide +kernel
theorem dX9_bestSlow_25 : decode cX9_bestSlow 25 = .ok (.istore 6, 2) := by decide +kernel
theorem dX9_bestSlow_27 : decode cX9_bestSlow 27 = .ok (.iload 6, 2) := by decide +kernel
theorem dX9_bestSlow_29 : decode cX9_bestSlow 29 = .ok (.bipush 100, 2) := by decide +kernel
theorem dX9_bestSlow_31 : decode cX9_bestSlow 31 = .ok (.if_icmp .ge 37, 3) := by decide +kernel
theorem dX9_bestSlow_34 : decode cX9_bestSlow 34 = .ok (.aload_n 0, 1) := by decide +kernel
theorem dX9_bestSlow_35 : decode cX9_bestSlow 35 = .ok (.iload_n 1, 1) := by decide +kernel
theorem dX9_bestSlow_36 : decode cX9_bestSlow 36 = .ok (.iload 6, 2) := by decide +kernel
theorem dX9_bestSlow_38 : decode cX9_bestSlow 38 = .ok (.iload_n 2, 1) := by decide +kernel
theorem dX9_bestSlow_39 : decode cX9_bestSlow 39 = .ok (.invokevirtual 257, 3) := by decide +kernel
theorem dX9_bestSlow_42 : decode cX9_bestSlow 42 = .ok (.istore 7, 2) := by decide +kernel
theorem dX9_bestSlow_44 : decode cX9_bestSlow 44 = .ok (.iload 7, 2) := by decide +kernel
theorem dX9_bestSlow_46 : decode cX9_bestSlow 46 = .ok (.iload 5, 2) := by decide +kernel
theorem dX9_bestSlow_48 : decode cX9_bestSlow 48 = .ok (.if_icmp .gt 6, 3) := by decide +kernel
theorem dX9_bestSlow_51 : decode cX9_bestSlow 51 = .ok (.goto 11, 3) := by decide +kernel
theorem dX9_bestSlow_54 : decode cX9_bestSlow 54 = .ok (.iload 7, 2) := by decide +kernel
theorem dX9_bestSlow_56 : decode cX9_bestSlow 56 = .ok (.istore 5, 2) := by decide +kernel
theorem dX9_bestSlow_58 : decode cX9_bestSlow 58 = .ok (.iload 6, 2) := by decide +kernel
theorem dX9_bestSlow_60 : decode cX9_bestSlow 60 = .ok (.istore 4, 2) := by decide +kernel
theorem dX9_bestSlow_62 : decode cX9_bestSlow 62 = .ok (.iinc 6 10, 3) := by decide +kernel
theorem dX9_bestSlow_65 : decode cX9_bestSlow 65 = .ok (.goto (-38), 3) := by decide +kernel
theorem dX9_bestSlow_68 : decode cX9_bestSlow 68 = .ok (.iload 4, 2) := by decide +kernel
theorem dX9_bestSlow_70 : decode cX9_bestSlow 70 = .ok (.ireturn, 1) := by decide +kernel
theorem dX9_cheat_0 : decode cX9_cheat 0 = .ok (.aload_n 0, 1) := by decide +kernel
theorem dX9_cheat_1 : decode cX9_cheat 1 = .ok (.iload_n 1, 1) := by decide +kernel
theorem dX9_cheat_2 : decode cX9_cheat 2 = .ok (.iload_n 2, 1) := by decide +kernel
theorem dX9_cheat_3 : decode cX9_cheat 3 = .ok (.invokevirtual 251, 3) := by decide +kernel
theorem dX9_cheat_6 : decode cX9_cheat 6 = .ok (.istore_n 3, 1) := by decide +kernel
theorem dX9_cheat_7 : decode cX9_cheat 7 = .ok (.iload_n 3, 1) := by decide +kernel
theorem dX9_cheat_8 : decode cX9_cheat 8 = .ok (.ifCond .eq 9, 3) := by decide +kernel
theorem dX9_cheat_11 : decode cX9_cheat 11 = .ok (.aload_n 0, 1) := by decide +kernel
theorem dX9_cheat_12 : decode cX9_cheat 12 = .ok (.iload_n 3, 1) := by decide +kernel
theorem dX9_cheat_13 : decode cX9_cheat 13 = .ok (.invokevirtual 96, 3) := by decide +kernel
theorem dX9_cheat_16 : decode cX9_cheat 16 = .ok (.ireturn, 1) := by decide +kernel
end
section
theorem dX9_cheat_17 : decode cX9_cheat 17 = .ok (.aload_n 0, 1) := by decide +kernel
theorem dX9_cheat_18 : decode cX9_cheat 18 = .ok (.iload_n 1, 1) := by decide +kernel
theorem dX9_cheat_19 : decode cX9_cheat 19 = .ok (.iload_n 2, 1) := by decide +kernel
theorem dX9_cheat_20 : decode cX9_cheat 20 = .ok (.invokevirtual 254, 3) := by decide +kernel
theorem dX9_cheat_23 : decode cX9_cheat 23 = .ok (.istore 4, 2) := by decide +kernel
theorem dX9_cheat_25 : decode cX9_cheat 25 = .ok (.iconst 1, 1) := by decide +kernel
theorem dX9_cheat_26 : decode cX9_cheat 26 = .ok (.istore 5, 2) := by decide +kernel
theorem dX9_cheat_28 : decode cX9_cheat 28 = .ok (.iload 5, 2) := by decide +kernel
theorem dX9_cheat_30 : decode cX9_cheat 30 = .ok (.bipush 100, 2) := by decide +kernel
theorem dX9_cheat_32 : decode cX9_cheat 32 = .ok (.if_icmp .ge 32, 3) := by decide +kernel
theorem dX9_cheat_35 : decode cX9_cheat 35 = .ok (.aload_n 0, 1) := by decide +kernel
theorem dX9_cheat_36 : decode cX9_cheat 36 = .ok (.iload_n 1, 1) := by decide +kernel
theorem dX9_cheat_37 : decode cX9_cheat 37 = .ok (.iload 5, 2) := by decide +kernel
theorem dX9_cheat_39 : decode cX9_cheat 39 = .ok (.iload_n 2, 1) := by decide +kernel
theorem dX9_cheat_40 : decode cX9_cheat 40 = .ok (.invokevirtual 257, 3) := by decide +kernel
theorem dX9_cheat_43 : decode cX9_cheat 43 = .ok (.istore 6, 2) := by decide +kernel
theorem dX9_cheat_45 : decode cX9_cheat 45 = .ok (.iload 6, 2) := by decide +kernel
theorem dX9_cheat_47 : decode cX9_cheat 47 = .ok (.iload 4, 2) := by decide +kernel
theorem dX9_cheat_49 : decode cX9_cheat 49 = .ok (.if_icmp .le 9, 3) := by decide +kernel
theorem dX9_cheat_52 : decode cX9_cheat 52 = .ok (.iload 6, 2) := by decide +kernel
theorem dX9_cheat_54 : decode cX9_cheat 54 = .ok (.iload 4, 2) := by decide +kernel
theorem dX9_cheat_56 : decode cX9_cheat 56 = .ok (.isub, 1) := by decide +kernel
theorem dX9_cheat_57 : decode cX9_cheat 57 = .ok (.ireturn, 1) := by decide +kernel
theorem dX9_cheat_58 : decode cX9_cheat 58 = .ok (.iinc 5 10, 3) := by decide +kernel
theorem dX9_cheat_61 : decode cX9_cheat 61 = .ok (.goto (-33), 3) := by decide +kernel
theorem dX9_cheat_64 : decode cX9_cheat 64 = .ok (.iconst 0, 1) := by decide +kernel
theorem dX9_cheat_65 : decode cX9_cheat 65 = .ok (.ireturn, 1) := by decide +kernel
theorem dX9_plays_0 : decode cX9_plays 0 = .ok (.aload_n 0, 1) := by decide +kernel
theorem dX9_plays_1 : decode cX9_plays 1 = .ok (.iconst 0, 1) := by decide +kernel
theorem dX9_plays_2 : decode cX9_plays 2 = .ok (.putfield 260, 3) := by decide +kernel
theorem dX9_plays_5 : decode cX9_plays 5 = .ok (.aload_n 0, 1) := by decide +kernel
theorem dX9_plays_6 : decode cX9_plays 6 = .ok (.iconst 0, 1) := by decide +kernel
theorem dX9_plays_7 : decode cX9_plays 7 = .ok (.putfield 263, 3) := by decide +kernel
theorem dX9_plays_10 : decode cX9_plays 10 = .ok (.aload_n 0, 1) := by decide +kernel
theorem dX9_plays_11 : decode cX9_plays 11 = .ok (.invokevirtual 233, 3) := by decide +kernel
theorem dX9_plays_14 : decode cX9_plays 14 = .ok (.ifCond .ne 37, 3) := by decide +kernel
theorem dX9_plays_17 : decode cX9_plays 17 = .ok (.aload_n 0, 1) := by decide +kernel
theorem dX9_plays_18 : decode cX9_plays 18 = .ok (.dup, 1) := by decide +kernel
theorem dX9_plays_19 : decode cX9_plays 19 = .ok (.getfield 260, 3) := by decide +kernel
theorem dX9_plays_22 : decode cX9_plays 22 = .ok (.iconst 1, 1) := by decide +kernel
theorem dX9_plays_23 : decode cX9_plays 23 = .ok (.iadd, 1) := by decide +kernel
theorem dX9_plays_24 : decode cX9_plays 24 = .ok (.putfield 260, 3) := by decide +kernel
theorem dX9_plays_27 : decode cX9_plays 27 = .ok (.aload_n 0, 1) := by decide +kernel
theorem dX9_plays_28 : decode cX9_plays 28 = .ok (.dup, 1) := by decide +kernel
theorem dX9_plays_29 : decode cX9_plays 29 = .ok (.getfield 263, 3) := by decide +kernel
theorem dX9_plays_32 : decode cX9_plays 32 = .ok (.aload_n 0, 1) := by decide +kernel
theorem dX9_plays_33 : decode cX9_plays 33 = .ok (.invokevirtual 236, 3) := by decide +kernel
theorem dX9_plays_36 : decode cX9_plays 36 = .ok (.ifCond .eq 7, 3) := by decide +kernel
theorem dX9_plays_39 : decode cX9_plays 39 = .ok (.iconst 1, 1) := by decide +kernel
theorem dX9_plays_40 : decode cX9_plays 40 = .ok (.goto 4, 3) := by decide +kernel
theorem dX9_plays_43 : decode cX9_plays 43 = .ok (.iconst 0, 1) := by decide +kernel
theorem dX9_plays_44 : decode cX9_plays 44 = .ok (.iadd, 1) := by decide +kernel
theorem dX9_plays_45 : decode cX9_plays 45 = .ok (.putfield 263, 3) := by decide +kernel
theorem dX9_plays_48 : decode cX9_plays 48 = .ok (.goto (-38), 3) := by decide +kernel
theorem dX9_plays_51 : decode cX9_plays 51 = .ok (.aload_n 0, 1) := by decide +kernel
theorem dX9_plays_52 : decode cX9_plays 52 = .ok (.bipush (-9), 2) := by decide +kernel
theorem dX9_plays_54 : decode cX9_plays 54 = .ok (.putfield 266, 3) := by decide +kernel
theorem dX9_plays_57 : decode cX9_plays 57 = .ok (.iconst 0, 1) := by decide +kernel
theorem dX9_plays_58 : decode cX9_plays 58 = .ok (.istore_n 1, 1) := by decide +kernel
theorem dX9_plays_59 : decode cX9_plays 59 = .ok (.iload_n 1, 1) := by decide +kernel
theorem dX9_plays_60 : decode cX9_plays 60 = .ok (.aload_n 0, 1) := by decide +kernel
theorem dX9_plays_61 : decode cX9_plays 61 = .ok (.getfield 86, 3) := by decide +kernel
theorem dX9_plays_64 : decode cX9_plays 64 = .ok (.if_icmp .ge 39, 3) := by decide +kernel
theorem dX9_plays_67 : decode cX9_plays 67 = .ok (.aload_n 0, 1) := by decide +kernel
theorem dX9_plays_68 : decode cX9_plays 68 = .ok (.aload_n 0, 1) := by decide +kernel
theorem dX9_plays_69 : decode cX9_plays 69 = .ok (.getfield 22, 3) := by decide +kernel
theorem dX9_plays_72 : decode cX9_plays 72 = .ok (.iload_n 1, 1) := by decide +kernel
theorem dX9_plays_73 : decode cX9_plays 73 = .ok (.iaload, 1) := by decide +kernel
theorem dX9_plays_74 : decode cX9_plays 74 = .ok (.iconst 1, 1) := by decide +kernel
theorem dX9_plays_75 : decode cX9_plays 75 = .ok (.if_icmp .ne 15, 3) := by decide +kernel
theorem dX9_plays_78 : decode cX9_plays 78 = .ok (.aload_n 0, 1) := by decide +kernel
theorem dX9_plays_79 : decode cX9_plays 79 = .ok (.invokevirtual 218, 3) := by decide +kernel
theorem dX9_plays_82 : decode cX9_plays 82 = .ok (.iconst 1, 1) := by decide +kernel
theorem dX9_plays_83 : decode cX9_plays 83 = .ok (.if_icmp .ne 7, 3) := by decide +kernel
theorem dX9_plays_86 : decode cX9_plays 86 = .ok (.iload_n 1, 1) := by decide +kernel
theorem dX9_plays_87 : decode cX9_plays 87 = .ok (.goto 7, 3) := by decide +kernel
theorem dX9_plays_90 : decode cX9_plays 90 = .ok (.aload_n 0, 1) := by decide +kernel
theorem dX9_plays_91 : decode cX9_plays 91 = .ok (.getfield 266, 3) := by decide +kernel
theorem dX9_plays_94 : decode cX9_plays 94 = .ok (.putfield 266, 3) := by decide +kernel
theorem dX9_plays_97 : decode cX9_plays 97 = .ok (.iinc 1 1, 3) := by decide +kernel
theorem dX9_plays_100 : decode cX9_plays 100 = .ok (.goto (-41), 3) := by decide +kernel
theorem dX9_plays_103 : decode cX9_plays 103 = .ok (.return_, 1) := by decide +kernel
theorem dX9_partyBy_0 : decode cX9_partyBy 0 = .ok (.aload_n 0, 1) := by decide +kernel
theorem dX9_partyBy_1 : decode cX9_partyBy 1 = .ok (.iconst 1, 1) := by decide +kernel
theorem dX9_partyBy_2 : decode cX9_partyBy 2 = .ok (.iconst 1, 1) := by decide +kernel
theorem dX9_partyBy_3 : decode cX9_partyBy 3 = .ok (.invokevirtual 163, 3) := by decide +kernel
theorem dX9_partyBy_6 : decode cX9_partyBy 6 = .ok (.aload_n 0, 1) := by decide +kernel
theorem dX9_partyBy_7 : decode cX9_partyBy 7 = .ok (.iload_n 1, 1) := by decide +kernel
theorem dX9_partyBy_8 : decode cX9_partyBy 8 = .ok (.putfield 50, 3) := by decide +kernel
theorem dX9_partyBy_11 : decode cX9_partyBy 11 = .ok (.aload_n 0, 1) := by decide +kernel
theorem dX9_partyBy_12 : decode cX9_partyBy 12 = .ok (.iload_n 2, 1) := by decide +kernel
theorem dX9_partyBy_13 : decode cX9_partyBy 13 = .ok (.putfield 129, 3) := by decide +kernel
theorem dX9_partyBy_16 : decode cX9_partyBy 16 = .ok (.aload_n 0, 1) := by decide +kernel
theorem dX9_partyBy_17 : decode cX9_partyBy 17 = .ok (.iload_n 3, 1) := by decide +kernel
theorem dX9_partyBy_18 : decode cX9_partyBy 18 = .ok (.putfield 126, 3) := by decide +kernel
theorem dX9_partyBy_21 : decode cX9_partyBy 21 = .ok (.aload_n 0, 1) := by decide +kernel
theorem dX9_partyBy_22 : decode cX9_partyBy 22 = .ok (.invokevirtual 269, 3) := by decide +kernel
theorem dX9_partyBy_25 : decode cX9_partyBy 25 = .ok (.aload_n 0, 1) := by decide +kernel
theorem dX9_partyBy_26 : decode cX9_partyBy 26 = .ok (.iconst 1, 1) := by decide +kernel
theorem dX9_partyBy_27 : decode cX9_partyBy 27 = .ok (.iconst 0, 1) := by decide +kernel
theorem dX9_partyBy_28 : decode cX9_partyBy 28 = .ok (.invokevirtual 163, 3) := by decide +kernel
theorem dX9_partyBy_31 : decode cX9_partyBy 31 = .ok (.return_, 1) := by decide +kernel
theorem dX9_lasts_0 : decode cX9_lasts 0 = .ok (.iload_n 1, 1) := by decide +kernel
theorem dX9_lasts_1 : decode cX9_lasts 1 = .ok (.iconst 0, 1) := by decide +kernel
theorem dX9_lasts_2 : decode cX9_lasts 2 = .ok (.iconst 2, 1) := by decide +kernel
theorem dX9_lasts_3 : decode cX9_lasts 3 = .ok (.invokestatic 108, 3) := by decide +kernel
theorem dX9_lasts_6 : decode cX9_lasts 6 = .ok (.ifCond .ne 10, 3) := by decide +kernel
theorem dX9_lasts_9 : decode cX9_lasts 9 = .ok (.aload_n 0, 1) := by decide +kernel
theorem dX9_lasts_10 : decode cX9_lasts 10 = .ok (.bipush (-2), 2) := by decide +kernel
theorem dX9_lasts_12 : decode cX9_lasts 12 = .ok (.invokevirtual 96, 3) := by decide +kernel
theorem dX9_lasts_15 : decode cX9_lasts 15 = .ok (.ireturn, 1) := by decide +kernel
theorem dX9_lasts_16 : decode cX9_lasts 16 = .ok (.aload_n 0, 1) := by decide +kernel
theorem dX9_lasts_17 : decode cX9_lasts 17 = .ok (.invokevirtual 233, 3) := by decide +kernel
theorem dX9_lasts_20 : decode cX9_lasts 20 = .ok (.ifCond .eq 10, 3) := by decide +kernel
theorem dX9_lasts_23 : decode cX9_lasts 23 = .ok (.aload_n 0, 1) := by decide +kernel
theorem dX9_lasts_24 : decode cX9_lasts 24 = .ok (.bipush (-3), 2) := by decide +kernel
theorem dX9_lasts_26 : decode cX9_lasts 26 = .ok (.invokevirtual 96, 3) := by decide +kernel
theorem dX9_lasts_29 : decode cX9_lasts 29 = .ok (.ireturn, 1) := by decide +kernel
theorem dX9_lasts_30 : decode cX9_lasts 30 = .ok (.aload_n 0, 1) := by decide +kernel
theorem dX9_lasts_31 : decode cX9_lasts 31 = .ok (.aload_n 0, 1) := by decide +kernel
theorem dX9_lasts_32 : decode cX9_lasts 32 = .ok (.getfield 50, 3) := by decide +kernel
theorem dX9_lasts_35 : decode cX9_lasts 35 = .ok (.aload_n 0, 1) := by decide +kernel
theorem dX9_lasts_36 : decode cX9_lasts 36 = .ok (.getfield 129, 3) := by decide +kernel
theorem dX9_lasts_39 : decode cX9_lasts 39 = .ok (.aload_n 0, 1) := by decide +kernel
theorem dX9_lasts_40 : decode cX9_lasts 40 = .ok (.getfield 126, 3) := by decide +kernel
theorem dX9_lasts_43 : decode cX9_lasts 43 = .ok (.invokevirtual 272, 3) := by decide +kernel
theorem dX9_lasts_46 : decode cX9_lasts 46 = .ok (.iload_n 1, 1) := by decide +kernel
theorem dX9_lasts_47 : decode cX9_lasts 47 = .ok (.ifCond .ne 10, 3) := by decide +kernel
theorem dX9_lasts_50 : decode cX9_lasts 50 = .ok (.aload_n 0, 1) := by decide +kernel
theorem dX9_lasts_51 : decode cX9_lasts 51 = .ok (.getfield 260, 3) := by decide +kernel
theorem dX9_lasts_54 : decode cX9_lasts 54 = .ok (.goto 19, 3) := by decide +kernel
theorem dX9_lasts_57 : decode cX9_lasts 57 = .ok (.iload_n 1, 1) := by decide +kernel
theorem dX9_lasts_58 : decode cX9_lasts 58 = .ok (.iconst 1, 1) := by decide +kernel
theorem dX9_lasts_59 : decode cX9_lasts 59 = .ok (.if_icmp .ne 10, 3) := by decide +kernel
theorem dX9_lasts_62 : decode cX9_lasts 62 = .ok (.aload_n 0, 1) := by decide +kernel
theorem dX9_lasts_63 : decode cX9_lasts 63 = .ok (.getfield 263, 3) := by decide +kernel
theorem dX9_lasts_66 : decode cX9_lasts 66 = .ok (.goto 7, 3) := by decide +kernel
theorem dX9_lasts_69 : decode cX9_lasts 69 = .ok (.aload_n 0, 1) := by decide +kernel
theorem dX9_lasts_70 : decode cX9_lasts 70 = .ok (.getfield 266, 3) := by decide +kernel
theorem dX9_lasts_73 : decode cX9_lasts 73 = .ok (.ireturn, 1) := by decide +kernel
theorem dX9_wins_0 : decode cX9_wins 0 = .ok (.aload_n 0, 1) := by decide +kernel
theorem dX9_wins_1 : decode cX9_wins 1 = .ok (.iload_n 1, 1) := by decide +kernel
theorem dX9_wins_2 : decode cX9_wins 2 = .ok (.invokevirtual 123, 3) := by decide +kernel
theorem dX9_wins_5 : decode cX9_wins 5 = .ok (.ifCond .ne 9, 3) := by decide +kernel
theorem dX9_wins_8 : decode cX9_wins 8 = .ok (.aload_n 0, 1) := by decide +kernel
theorem dX9_wins_9 : decode cX9_wins 9 = .ok (.iconst (-1), 1) := by decide +kernel
theorem dX9_wins_10 : decode cX9_wins 10 = .ok (.invokevirtual 96, 3) := by decide +kernel
theorem dX9_wins_13 : decode cX9_wins 13 = .ok (.ireturn, 1) := by decide +kernel
theorem dX9_wins_14 : decode cX9_wins 14 = .ok (.iload_n 2, 1) := by decide +kernel
theorem dX9_wins_15 : decode cX9_wins 15 = .ok (.iconst 1, 1) := by decide +kernel
theorem dX9_wins_16 : decode cX9_wins 16 = .ok (.bipush 20, 2) := by decide +kernel
theorem dX9_wins_18 : decode cX9_wins 18 = .ok (.invokestatic 112, 3) := by decide +kernel
theorem dX9_wins_21 : decode cX9_wins 21 = .ok (.istore 4, 2) := by decide +kernel
theorem dX9_wins_23 : decode cX9_wins 23 = .ok (.iload 4, 2) := by decide +kernel
theorem dX9_wins_25 : decode cX9_wins 25 = .ok (.ifCond .ne 14, 3) := by decide +kernel
theorem dX9_wins_28 : decode cX9_wins 28 = .ok (.aload_n 0, 1) := by decide +kernel
theorem dX9_wins_29 : decode cX9_wins 29 = .ok (.invokevirtual 233, 3) := by decide +kernel
theorem dX9_wins_32 : decode cX9_wins 32 = .ok (.ifCond .eq 7, 3) := by decide +kernel
theorem dX9_wins_35 : decode cX9_wins 35 = .ok (.bipush (-3), 2) := by decide +kernel
theorem dX9_wins_37 : decode cX9_wins 37 = .ok (.istore 4, 2) := by decide +kernel
theorem dX9_wins_39 : decode cX9_wins 39 = .ok (.iload 4, 2) := by decide +kernel
theorem dX9_wins_41 : decode cX9_wins 41 = .ok (.ifCond .eq 10, 3) := by decide +kernel
theorem dX9_wins_44 : decode cX9_wins 44 = .ok (.aload_n 0, 1) := by decide +kernel
theorem dX9_wins_45 : decode cX9_wins 45 = .ok (.iload 4, 2) := by decide +kernel
theorem dX9_wins_47 : decode cX9_wins 47 = .ok (.invokevirtual 96, 3) := by decide +kernel
theorem dX9_wins_50 : decode cX9_wins 50 = .ok (.ireturn, 1) := by decide +kernel
theorem dX9_wins_51 : decode cX9_wins 51 = .ok (.iconst 0, 1) := by decide +kernel
theorem dX9_wins_52 : decode cX9_wins 52 = .ok (.istore 5, 2) := by decide +kernel
theorem dX9_wins_54 : decode cX9_wins 54 = .ok (.iconst 0, 1) := by decide +kernel
theorem dX9_wins_55 : decode cX9_wins 55 = .ok (.istore 6, 2) := by decide +kernel
theorem dX9_wins_57 : decode cX9_wins 57 = .ok (.iload 6, 2) := by decide +kernel
theorem dX9_wins_59 : decode cX9_wins 59 = .ok (.iload_n 2, 1) := by decide +kernel
theorem dX9_wins_60 : decode cX9_wins 60 = .ok (.if_icmp .ge 43, 3) := by decide +kernel
theorem dX9_wins_63 : decode cX9_wins 63 = .ok (.aload_n 0, 1) := by decide +kernel
theorem dX9_wins_64 : decode cX9_wins 64 = .ok (.iload_n 3, 1) := by decide +kernel
theorem dX9_wins_65 : decode cX9_wins 65 = .ok (.iload 6, 2) := by decide +kernel
theorem dX9_wins_67 : decode cX9_wins 67 = .ok (.iadd, 1) := by decide +kernel
theorem dX9_wins_68 : decode cX9_wins 68 = .ok (.aload_n 0, 1) := by decide +kernel
theorem dX9_wins_69 : decode cX9_wins 69 = .ok (.getfield 129, 3) := by decide +kernel
theorem dX9_wins_72 : decode cX9_wins 72 = .ok (.aload_n 0, 1) := by decide +kernel
theorem dX9_wins_73 : decode cX9_wins 73 = .ok (.getfield 126, 3) := by decide +kernel
theorem dX9_wins_76 : decode cX9_wins 76 = .ok (.invokevirtual 272, 3) := by decide +kernel
theorem dX9_wins_79 : decode cX9_wins 79 = .ok (.iload 5, 2) := by decide +kernel
theorem dX9_wins_81 : decode cX9_wins 81 = .ok (.aload_n 0, 1) := by decide +kernel
theorem dX9_wins_82 : decode cX9_wins 82 = .ok (.getfield 266, 3) := by decide +kernel
theorem dX9_wins_85 : decode cX9_wins 85 = .ok (.iload_n 1, 1) := by decide +kernel
theorem dX9_wins_86 : decode cX9_wins 86 = .ok (.if_icmp .ne 7, 3) := by decide +kernel
theorem dX9_wins_89 : decode cX9_wins 89 = .ok (.iconst 1, 1) := by decide +kernel
theorem dX9_wins_90 : decode cX9_wins 90 = .ok (.goto 4, 3) := by decide +kernel
theorem dX9_wins_93 : decode cX9_wins 93 = .ok (.iconst 0, 1) := by decide +kernel
theorem dX9_wins_94 : decode cX9_wins 94 = .ok (.iadd, 1) := by decide +kernel
theorem dX9_wins_95 : decode cX9_wins 95 = .ok (.istore 5, 2) := by decide +kernel
theorem dX9_wins_97 : decode cX9_wins 97 = .ok (.iinc 6 1, 3) := by decide +kernel
theorem dX9_wins_100 : decode cX9_wins 100 = .ok (.goto (-43), 3) := by decide +kernel
theorem dX9_wins_103 : decode cX9_wins 103 = .ok (.iload 5, 2) := by decide +kernel
theorem dX9_wins_105 : decode cX9_wins 105 = .ok (.ireturn, 1) := by decide +kernel
theorem dX9_fairest_0 : decode cX9_fairest 0 = .ok (.iload_n 1, 1) := by decide +kernel
theorem dX9_fairest_1 : decode cX9_fairest 1 = .ok (.iconst 1, 1) := by decide +kernel
theorem dX9_fairest_2 : decode cX9_fairest 2 = .ok (.bipush 20, 2) := by decide +kernel
theorem dX9_fairest_4 : decode cX9_fairest 4 = .ok (.invokestatic 112, 3) := by decide +kernel
theorem dX9_fairest_7 : decode cX9_fairest 7 = .ok (.istore_n 3, 1) := by decide +kernel
theorem dX9_fairest_8 : decode cX9_fairest 8 = .ok (.iload_n 3, 1) := by decide +kernel
theorem dX9_fairest_9 : decode cX9_fairest 9 = .ok (.ifCond .ne 13, 3) := by decide +kernel
theorem dX9_fairest_12 : decode cX9_fairest 12 = .ok (.aload_n 0, 1) := by decide +kernel
theorem dX9_fairest_13 : decode cX9_fairest 13 = .ok (.invokevirtual 233, 3) := by decide +kernel
theorem dX9_fairest_16 : decode cX9_fairest 16 = .ok (.ifCond .eq 6, 3) := by decide +kernel
theorem dX9_fairest_19 : decode cX9_fairest 19 = .ok (.bipush (-3), 2) := by decide +kernel
theorem dX9_fairest_21 : decode cX9_fairest 21 = .ok (.istore_n 3, 1) := by decide +kernel
theorem dX9_fairest_22 : decode cX9_fairest 22 = .ok (.iload_n 3, 1) := by decide +kernel
theorem dX9_fairest_23 : decode cX9_fairest 23 = .ok (.ifCond .eq 9, 3) := by decide +kernel
theorem dX9_fairest_26 : decode cX9_fairest 26 = .ok (.aload_n 0, 1) := by decide +kernel
theorem dX9_fairest_27 : decode cX9_fairest 27 = .ok (.iload_n 3, 1) := by decide +kernel
theorem dX9_fairest_28 : decode cX9_fairest 28 = .ok (.invokevirtual 96, 3) := by decide +kernel
theorem dX9_fairest_31 : decode cX9_fairest 31 = .ok (.ireturn, 1) := by decide +kernel
theorem dX9_fairest_32 : decode cX9_fairest 32 = .ok (.iconst 0, 1) := by decide +kernel
theorem dX9_fairest_33 : decode cX9_fairest 33 = .ok (.istore 4, 2) := by decide +kernel
theorem dX9_fairest_35 : decode cX9_fairest 35 = .ok (.iconst (-1), 1) := by decide +kernel
theorem dX9_fairest_36 : decode cX9_fairest 36 = .ok (.istore 5, 2) := by decide +kernel
theorem dX9_fairest_38 : decode cX9_fairest 38 = .ok (.iconst 0, 1) := by decide +kernel
theorem dX9_fairest_39 : decode cX9_fairest 39 = .ok (.istore 6, 2) := by decide +kernel
theorem dX9_fairest_41 : decode cX9_fairest 41 = .ok (.iconst 0, 1) := by decide +kernel
theorem dX9_fairest_42 : decode cX9_fairest 42 = .ok (.istore 7, 2) := by decide +kernel
theorem dX9_fairest_44 : decode cX9_fairest 44 = .ok (.iload 7, 2) := by decide +kernel
theorem dX9_fairest_46 : decode cX9_fairest 46 = .ok (.iconst 3, 1) := by decide +kernel
theorem dX9_fairest_47 : decode cX9_fairest 47 = .ok (.if_icmp .ge 142, 3) := by decide +kernel
theorem dX9_fairest_50 : decode cX9_fairest 50 = .ok (.iconst 0, 1) := by decide +kernel
theorem dX9_fairest_51 : decode cX9_fairest 51 = .ok (.istore 8, 2) := by decide +kernel
theorem dX9_fairest_53 : decode cX9_fairest 53 = .ok (.iconst 0, 1) := by decide +kernel
theorem dX9_fairest_54 : decode cX9_fairest 54 = .ok (.istore 9, 2) := by decide +kernel
theorem dX9_fairest_56 : decode cX9_fairest 56 = .ok (.iconst 0, 1) := by decide +kernel
theorem dX9_fairest_57 : decode cX9_fairest 57 = .ok (.istore 10, 2) := by decide +kernel
theorem dX9_fairest_59 : decode cX9_fairest 59 = .ok (.iload 10, 2) := by decide +kernel
theorem dX9_fairest_61 : decode cX9_fairest 61 = .ok (.iload_n 1, 1) := by decide +kernel
theorem dX9_fairest_62 : decode cX9_fairest 62 = .ok (.if_icmp .ge 54, 3) := by decide +kernel
theorem dX9_fairest_65 : decode cX9_fairest 65 = .ok (.aload_n 0, 1) := by decide +kernel
theorem dX9_fairest_66 : decode cX9_fairest 66 = .ok (.iload_n 2, 1) := by decide +kernel
theorem dX9_fairest_67 : decode cX9_fairest 67 = .ok (.iload 10, 2) := by decide +kernel
theorem dX9_fairest_69 : decode cX9_fairest 69 = .ok (.iadd, 1) := by decide +kernel
theorem dX9_fairest_70 : decode cX9_fairest 70 = .ok (.iload 7, 2) := by decide +kernel
theorem dX9_fairest_72 : decode cX9_fairest 72 = .ok (.aload_n 0, 1) := by decide +kernel
theorem dX9_fairest_73 : decode cX9_fairest 73 = .ok (.getfield 126, 3) := by decide +kernel
theorem dX9_fairest_76 : decode cX9_fairest 76 = .ok (.invokevirtual 272, 3) := by decide +kernel
theorem dX9_fairest_79 : decode cX9_fairest 79 = .ok (.iload 8, 2) := by decide +kernel
theorem dX9_fairest_81 : decode cX9_fairest 81 = .ok (.aload_n 0, 1) := by decide +kernel
theorem dX9_fairest_82 : decode cX9_fairest 82 = .ok (.getfield 266, 3) := by decide +kernel
theorem dX9_fairest_85 : decode cX9_fairest 85 = .ok (.ifCond .ge 7, 3) := by decide +kernel
theorem dX9_fairest_88 : decode cX9_fairest 88 = .ok (.iconst 0, 1) := by decide +kernel
theorem dX9_fairest_89 : decode cX9_fairest 89 = .ok (.goto 9, 3) := by decide +kernel
theorem dX9_fairest_92 : decode cX9_fairest 92 = .ok (.iconst 1, 1) := by decide +kernel
theorem dX9_fairest_93 : decode cX9_fairest 93 = .ok (.aload_n 0, 1) := by decide +kernel
theorem dX9_fairest_94 : decode cX9_fairest 94 = .ok (.getfield 266, 3) := by decide +kernel
theorem dX9_fairest_97 : decode cX9_fairest 97 = .ok (.ishl, 1) := by decide +kernel
theorem dX9_fairest_98 : decode cX9_fairest 98 = .ok (.ior, 1) := by decide +kernel
theorem dX9_fairest_99 : decode cX9_fairest 99 = .ok (.istore 8, 2) := by decide +kernel
theorem dX9_fairest_101 : decode cX9_fairest 101 = .ok (.iload 9, 2) := by decide +kernel
theorem dX9_fairest_103 : decode cX9_fairest 103 = .ok (.aload_n 0, 1) := by decide +kernel
theorem dX9_fairest_104 : decode cX9_fairest 104 = .ok (.getfield 260, 3) := by decide +kernel
theorem dX9_fairest_107 : decode cX9_fairest 107 = .ok (.iadd, 1) := by decide +kernel
theorem dX9_fairest_108 : decode cX9_fairest 108 = .ok (.istore 9, 2) := by decide +kernel
theorem dX9_fairest_110 : decode cX9_fairest 110 = .ok (.iinc 10 1, 3) := by decide +kernel
theorem dX9_fairest_113 : decode cX9_fairest 113 = .ok (.goto (-54), 3) := by decide +kernel
theorem dX9_fairest_116 : decode cX9_fairest 116 = .ok (.iconst 0, 1) := by decide +kernel
theorem dX9_fairest_117 : decode cX9_fairest 117 = .ok (.istore 10, 2) := by decide +kernel
theorem dX9_fairest_119 : decode cX9_fairest 119 = .ok (.iconst 0, 1) := by decide +kernel
theorem dX9_fairest_120 : decode cX9_fairest 120 = .ok (.istore 11, 2) := by decide +kernel
theorem dX9_fairest_122 : decode cX9_fairest 122 = .ok (.iload 11, 2) := by decide +kernel
theorem dX9_fairest_124 : decode cX9_fairest 124 = .ok (.bipush 12, 2) := by decide +kernel
theorem dX9_fairest_126 : decode cX9_fairest 126 = .ok (.if_icmp .ge 21, 3) := by decide +kernel
theorem dX9_fairest_129 : decode cX9_fairest 129 = .ok (.iload 10, 2) := by decide +kernel
theorem dX9_fairest_131 : decode cX9_fairest 131 = .ok (.iload 8, 2) := by decide +kernel
theorem dX9_fairest_133 : decode cX9_fairest 133 = .ok (.iload 11, 2) := by decide +kernel
theorem dX9_fairest_135 : decode cX9_fairest 135 = .ok (.ishr, 1) := by decide +kernel
theorem dX9_fairest_136 : decode cX9_fairest 136 = .ok (.iconst 1, 1) := by decide +kernel
theorem dX9_fairest_137 : decode cX9_fairest 137 = .ok (.iand, 1) := by decide +kernel
theorem dX9_fairest_138 : decode cX9_fairest 138 = .ok (.iadd, 1) := by decide +kernel
theorem dX9_fairest_139 : decode cX9_fairest 139 = .ok (.istore 10, 2) := by decide +kernel
theorem dX9_fairest_141 : decode cX9_fairest 141 = .ok (.iinc 11 1, 3) := by decide +kernel
theorem dX9_fairest_144 : decode cX9_fairest 144 = .ok (.goto (-22), 3) := by decide +kernel
theorem dX9_fairest_147 : decode cX9_fairest 147 = .ok (.iload 10, 2) := by decide +kernel
theorem dX9_fairest_149 : decode cX9_fairest 149 = .ok (.iload 5, 2) := by decide +kernel
theorem dX9_fairest_151 : decode cX9_fairest 151 = .ok (.if_icmp .lt 32, 3) := by decide +kernel
theorem dX9_fairest_154 : decode cX9_fairest 154 = .ok (.iload 10, 2) := by decide +kernel
theorem dX9_fairest_156 : decode cX9_fairest 156 = .ok (.iload 5, 2) := by decide +kernel
theorem dX9_fairest_158 : decode cX9_fairest 158 = .ok (.if_icmp .ne 13, 3) := by decide +kernel
theorem dX9_fairest_161 : decode cX9_fairest 161 = .ok (.iload 9, 2) := by decide +kernel
theorem dX9_fairest_163 : decode cX9_fairest 163 = .ok (.iload 6, 2) := by decide +kernel
theorem dX9_fairest_165 : decode cX9_fairest 165 = .ok (.if_icmp .lt 6, 3) := by decide +kernel
theorem dX9_fairest_168 : decode cX9_fairest 168 = .ok (.goto 15, 3) := by decide +kernel
theorem dX9_fairest_171 : decode cX9_fairest 171 = .ok (.iload 10, 2) := by decide +kernel
theorem dX9_fairest_173 : decode cX9_fairest 173 = .ok (.istore 5, 2) := by decide +kernel
theorem dX9_fairest_175 : decode cX9_fairest 175 = .ok (.iload 9, 2) := by decide +kernel
theorem dX9_fairest_177 : decode cX9_fairest 177 = .ok (.istore 6, 2) := by decide +kernel
theorem dX9_fairest_179 : decode cX9_fairest 179 = .ok (.iload 7, 2) := by decide +kernel
theorem dX9_fairest_181 : decode cX9_fairest 181 = .ok (.istore 4, 2) := by decide +kernel
theorem dX9_fairest_183 : decode cX9_fairest 183 = .ok (.iinc 7 1, 3) := by decide +kernel
theorem dX9_fairest_186 : decode cX9_fairest 186 = .ok (.goto (-142), 3) := by decide +kernel
theorem dX9_fairest_189 : decode cX9_fairest 189 = .ok (.iload 4, 2) := by decide +kernel
theorem dX9_fairest_191 : decode cX9_fairest 191 = .ok (.ireturn, 1) := by decide +kernel
theorem dX9_shortest_0 : decode cX9_shortest 0 = .ok (.aload_n 0, 1) := by decide +kernel
theorem dX9_shortest_1 : decode cX9_shortest 1 = .ok (.invokevirtual 233, 3) := by decide +kernel
theorem dX9_shortest_4 : decode cX9_shortest 4 = .ok (.ifCond .eq 10, 3) := by decide +kernel
theorem dX9_shortest_7 : decode cX9_shortest 7 = .ok (.aload_n 0, 1) := by decide +kernel
theorem dX9_shortest_8 : decode cX9_shortest 8 = .ok (.bipush (-3), 2) := by decide +kernel
theorem dX9_shortest_10 : decode cX9_shortest 10 = .ok (.invokevirtual 96, 3) := by decide +kernel
theorem dX9_shortest_13 : decode cX9_shortest 13 = .ok (.ireturn, 1) := by decide +kernel
theorem dX9_shortest_14 : decode cX9_shortest 14 = .ok (.iconst 0, 1) := by decide +kernel
theorem dX9_shortest_15 : decode cX9_shortest 15 = .ok (.istore_n 1, 1) := by decide +kernel
theorem dX9_shortest_16 : decode cX9_shortest 16 = .ok (.iconst (-1), 1) := by decide +kernel
theorem dX9_shortest_17 : decode cX9_shortest 17 = .ok (.istore_n 2, 1) := by decide +kernel
theorem dX9_shortest_18 : decode cX9_shortest 18 = .ok (.iconst 0, 1) := by decide +kernel
theorem dX9_shortest_19 : decode cX9_shortest 19 = .ok (.istore_n 3, 1) := by decide +kernel
theorem dX9_shortest_20 : decode cX9_shortest 20 = .ok (.iload_n 3, 1) := by decide +kernel
theorem dX9_shortest_21 : decode cX9_shortest 21 = .ok (.iconst 5, 1) := by decide +kernel
theorem dX9_shortest_22 : decode cX9_shortest 22 = .ok (.if_icmp .ge 44, 3) := by decide +kernel
theorem dX9_shortest_25 : decode cX9_shortest 25 = .ok (.aload_n 0, 1) := by decide +kernel
theorem dX9_shortest_26 : decode cX9_shortest 26 = .ok (.aload_n 0, 1) := by decide +kernel
theorem dX9_shortest_27 : decode cX9_shortest 27 = .ok (.getfield 50, 3) := by decide +kernel
theorem dX9_shortest_30 : decode cX9_shortest 30 = .ok (.aload_n 0, 1) := by decide +kernel
theorem dX9_shortest_31 : decode cX9_shortest 31 = .ok (.getfield 129, 3) := by decide +kernel
theorem dX9_shortest_34 : decode cX9_shortest 34 = .ok (.iload_n 3, 1) := by decide +kernel
theorem dX9_shortest_35 : decode cX9_shortest 35 = .ok (.invokevirtual 272, 3) := by decide +kernel
theorem dX9_shortest_38 : decode cX9_shortest 38 = .ok (.iload_n 2, 1) := by decide +kernel
theorem dX9_shortest_39 : decode cX9_shortest 39 = .ok (.ifCond .lt 14, 3) := by decide +kernel
theorem dX9_shortest_42 : decode cX9_shortest 42 = .ok (.aload_n 0, 1) := by decide +kernel
theorem dX9_shortest_43 : decode cX9_shortest 43 = .ok (.getfield 260, 3) := by decide +kernel
theorem dX9_shortest_46 : decode cX9_shortest 46 = .ok (.iload_n 2, 1) := by decide +kernel
theorem dX9_shortest_47 : decode cX9_shortest 47 = .ok (.if_icmp .lt 6, 3) := by decide +kernel
theorem dX9_shortest_50 : decode cX9_shortest 50 = .ok (.goto 10, 3) := by decide +kernel
theorem dX9_shortest_53 : decode cX9_shortest 53 = .ok (.aload_n 0, 1) := by decide +kernel
theorem dX9_shortest_54 : decode cX9_shortest 54 = .ok (.getfield 260, 3) := by decide +kernel
theorem dX9_shortest_57 : decode cX9_shortest 57 = .ok (.istore_n 2, 1) := by decide +kernel
theorem dX9_shortest_58 : decode cX9_shortest 58 = .ok (.iload_n 3, 1) := by decide +kernel
theorem dX9_shortest_59 : decode cX9_shortest 59 = .ok (.istore_n 1, 1) := by decide +kernel
theorem dX9_shortest_60 : decode cX9_shortest 60 = .ok (.iinc 3 1, 3) := by decide +kernel
theorem dX9_shortest_63 : decode cX9_shortest 63 = .ok (.goto (-43), 3) := by decide +kernel
theorem dX9_shortest_66 : decode cX9_shortest 66 = .ok (.iload_n 1, 1) := by decide +kernel
theorem dX9_shortest_67 : decode cX9_shortest 67 = .ok (.ireturn, 1) := by decide +kernel
theorem dX9_row_0 : decode cX9_row 0 = .ok (.iload_n 1, 1) := by decide +kernel
theorem dX9_row_1 : decode cX9_row 1 = .ok (.iconst 1, 1) := by decide +kernel
theorem dX9_row_2 : decode cX9_row 2 = .ok (.sipush 300, 3) := by decide +kernel
theorem dX9_row_5 : decode cX9_row 5 = .ok (.invokestatic 112, 3) := by decide +kernel
theorem dX9_row_8 : decode cX9_row 8 = .ok (.istore_n 2, 1) := by decide +kernel
theorem dX9_row_9 : decode cX9_row 9 = .ok (.iload_n 2, 1) := by decide +kernel
theorem dX9_row_10 : decode cX9_row 10 = .ok (.ifCond .ne 15, 3) := by decide +kernel
theorem dX9_row_13 : decode cX9_row 13 = .ok (.aload_n 0, 1) := by decide +kernel
theorem dX9_row_14 : decode cX9_row 14 = .ok (.getfield 275, 3) := by decide +kernel
theorem dX9_row_17 : decode cX9_row 17 = .ok (.bipush 16, 2) := by decide +kernel
theorem dX9_row_19 : decode cX9_row 19 = .ok (.if_icmp .ne 6, 3) := by decide +kernel
theorem dX9_row_22 : decode cX9_row 22 = .ok (.bipush (-6), 2) := by decide +kernel
theorem dX9_row_24 : decode cX9_row 24 = .ok (.istore_n 2, 1) := by decide +kernel
theorem dX9_row_25 : decode cX9_row 25 = .ok (.iload_n 2, 1) := by decide +kernel
theorem dX9_row_26 : decode cX9_row 26 = .ok (.ifCond .eq 9, 3) := by decide +kernel
theorem dX9_row_29 : decode cX9_row 29 = .ok (.aload_n 0, 1) := by decide +kernel
theorem dX9_row_30 : decode cX9_row 30 = .ok (.iload_n 2, 1) := by decide +kernel
theorem dX9_row_31 : decode cX9_row 31 = .ok (.invokevirtual 96, 3) := by decide +kernel
theorem dX9_row_34 : decode cX9_row 34 = .ok (.ireturn, 1) := by decide +kernel
theorem dX9_row_35 : decode cX9_row 35 = .ok (.aload_n 0, 1) := by decide +kernel
theorem dX9_row_36 : decode cX9_row 36 = .ok (.getfield 80, 3) := by decide +kernel
theorem dX9_row_39 : decode cX9_row 39 = .ok (.aload_n 0, 1) := by decide +kernel
theorem dX9_row_40 : decode cX9_row 40 = .ok (.getfield 275, 3) := by decide +kernel
theorem dX9_row_43 : decode cX9_row 43 = .ok (.iload_n 1, 1) := by decide +kernel
theorem dX9_row_44 : decode cX9_row 44 = .ok (.iastore, 1) := by decide +kernel
theorem dX9_row_45 : decode cX9_row 45 = .ok (.aload_n 0, 1) := by decide +kernel
theorem dX9_row_46 : decode cX9_row 46 = .ok (.dup, 1) := by decide +kernel
theorem dX9_row_47 : decode cX9_row 47 = .ok (.getfield 275, 3) := by decide +kernel
theorem dX9_row_50 : decode cX9_row 50 = .ok (.iconst 1, 1) := by decide +kernel
theorem dX9_row_51 : decode cX9_row 51 = .ok (.iadd, 1) := by decide +kernel
theorem dX9_row_52 : decode cX9_row 52 = .ok (.putfield 275, 3) := by decide +kernel
theorem dX9_row_55 : decode cX9_row 55 = .ok (.aload_n 0, 1) := by decide +kernel
theorem dX9_row_56 : decode cX9_row 56 = .ok (.getfield 275, 3) := by decide +kernel
theorem dX9_row_59 : decode cX9_row 59 = .ok (.ireturn, 1) := by decide +kernel
theorem dX9_could_0 : decode cX9_could 0 = .ok (.bipush 31, 2) := by decide +kernel
theorem dX9_could_2 : decode cX9_could 2 = .ok (.istore_n 1, 1) := by decide +kernel
theorem dX9_could_3 : decode cX9_could 3 = .ok (.iconst 0, 1) := by decide +kernel
theorem dX9_could_4 : decode cX9_could 4 = .ok (.istore_n 2, 1) := by decide +kernel
theorem dX9_could_5 : decode cX9_could 5 = .ok (.iload_n 2, 1) := by decide +kernel
theorem dX9_could_6 : decode cX9_could 6 = .ok (.aload_n 0, 1) := by decide +kernel
theorem dX9_could_7 : decode cX9_could 7 = .ok (.getfield 275, 3) := by decide +kernel
theorem dX9_could_10 : decode cX9_could 10 = .ok (.if_icmp .ge 74, 3) := by decide +kernel
theorem dX9_could_13 : decode cX9_could 13 = .ok (.aload_n 0, 1) := by decide +kernel
theorem dX9_could_14 : decode cX9_could 14 = .ok (.getfield 80, 3) := by decide +kernel
theorem dX9_could_17 : decode cX9_could 17 = .ok (.iload_n 2, 1) := by decide +kernel
theorem dX9_could_18 : decode cX9_could 18 = .ok (.iaload, 1) := by decide +kernel
theorem dX9_could_19 : decode cX9_could 19 = .ok (.bipush 8, 2) := by decide +kernel
theorem dX9_could_21 : decode cX9_could 21 = .ok (.irem, 1) := by decide +kernel
theorem dX9_could_22 : decode cX9_could 22 = .ok (.ifCond .eq 20, 3) := by decide +kernel
theorem dX9_could_25 : decode cX9_could 25 = .ok (.aload_n 0, 1) := by decide +kernel
theorem dX9_could_26 : decode cX9_could 26 = .ok (.getfield 80, 3) := by decide +kernel
theorem dX9_could_29 : decode cX9_could 29 = .ok (.iload_n 2, 1) := by decide +kernel
theorem dX9_could_30 : decode cX9_could 30 = .ok (.iaload, 1) := by decide +kernel
theorem dX9_could_31 : decode cX9_could 31 = .ok (.sipush 300, 3) := by decide +kernel
theorem dX9_could_34 : decode cX9_could 34 = .ok (.if_icmp .eq 8, 3) := by decide +kernel
theorem dX9_could_37 : decode cX9_could 37 = .ok (.iload_n 1, 1) := by decide +kernel
theorem dX9_could_38 : decode cX9_could 38 = .ok (.bipush (-3), 2) := by decide +kernel
theorem dX9_could_40 : decode cX9_could 40 = .ok (.iand, 1) := by decide +kernel
theorem dX9_could_41 : decode cX9_could 41 = .ok (.istore_n 1, 1) := by decide +kernel
theorem dX9_could_42 : decode cX9_could 42 = .ok (.aload_n 0, 1) := by decide +kernel
theorem dX9_could_43 : decode cX9_could 43 = .ok (.getfield 80, 3) := by decide +kernel
theorem dX9_could_46 : decode cX9_could 46 = .ok (.iload_n 2, 1) := by decide +kernel
theorem dX9_could_47 : decode cX9_could 47 = .ok (.iaload, 1) := by decide +kernel
theorem dX9_could_48 : decode cX9_could 48 = .ok (.aload_n 0, 1) := by decide +kernel
theorem dX9_could_49 : decode cX9_could 49 = .ok (.getfield 47, 3) := by decide +kernel
theorem dX9_could_52 : decode cX9_could 52 = .ok (.if_icmp .ge 8, 3) := by decide +kernel
theorem dX9_could_55 : decode cX9_could 55 = .ok (.iload_n 1, 1) := by decide +kernel
theorem dX9_could_56 : decode cX9_could 56 = .ok (.bipush (-5), 2) := by decide +kernel
theorem dX9_could_58 : decode cX9_could 58 = .ok (.iand, 1) := by decide +kernel
theorem dX9_could_59 : decode cX9_could 59 = .ok (.istore_n 1, 1) := by decide +kernel
theorem dX9_could_60 : decode cX9_could 60 = .ok (.aload_n 0, 1) := by decide +kernel
theorem dX9_could_61 : decode cX9_could 61 = .ok (.getfield 80, 3) := by decide +kernel
theorem dX9_could_64 : decode cX9_could 64 = .ok (.iload_n 2, 1) := by decide +kernel
theorem dX9_could_65 : decode cX9_could 65 = .ok (.iaload, 1) := by decide +kernel
theorem dX9_could_66 : decode cX9_could 66 = .ok (.aload_n 0, 1) := by decide +kernel
theorem dX9_could_67 : decode cX9_could 67 = .ok (.getfield 47, 3) := by decide +kernel
theorem dX9_could_70 : decode cX9_could 70 = .ok (.if_icmp .eq 8, 3) := by decide +kernel
theorem dX9_could_73 : decode cX9_could 73 = .ok (.iload_n 1, 1) := by decide +kernel
theorem dX9_could_74 : decode cX9_could 74 = .ok (.bipush (-17), 2) := by decide +kernel
theorem dX9_could_76 : decode cX9_could 76 = .ok (.iand, 1) := by decide +kernel
theorem dX9_could_77 : decode cX9_could 77 = .ok (.istore_n 1, 1) := by decide +kernel
theorem dX9_could_78 : decode cX9_could 78 = .ok (.iinc 2 1, 3) := by decide +kernel
theorem dX9_could_81 : decode cX9_could 81 = .ok (.goto (-76), 3) := by decide +kernel
theorem dX9_could_84 : decode cX9_could 84 = .ok (.iload_n 1, 1) := by decide +kernel
theorem dX9_could_85 : decode cX9_could 85 = .ok (.ireturn, 1) := by decide +kernel
theorem dX9_next_0 : decode cX9_next 0 = .ok (.iload_n 1, 1) := by decide +kernel
theorem dX9_next_1 : decode cX9_next 1 = .ok (.iconst 1, 1) := by decide +kernel
theorem dX9_next_2 : decode cX9_next 2 = .ok (.sipush 300, 3) := by decide +kernel
theorem dX9_next_5 : decode cX9_next 5 = .ok (.invokestatic 112, 3) := by decide +kernel
theorem dX9_next_8 : decode cX9_next 8 = .ok (.istore_n 2, 1) := by decide +kernel
theorem dX9_next_9 : decode cX9_next 9 = .ok (.iload_n 2, 1) := by decide +kernel
theorem dX9_next_10 : decode cX9_next 10 = .ok (.ifCond .ne 13, 3) := by decide +kernel
theorem dX9_next_13 : decode cX9_next 13 = .ok (.aload_n 0, 1) := by decide +kernel
theorem dX9_next_14 : decode cX9_next 14 = .ok (.getfield 275, 3) := by decide +kernel
theorem dX9_next_17 : decode cX9_next 17 = .ok (.ifCond .ne 6, 3) := by decide +kernel
theorem dX9_next_20 : decode cX9_next 20 = .ok (.bipush (-3), 2) := by decide +kernel
theorem dX9_next_22 : decode cX9_next 22 = .ok (.istore_n 2, 1) := by decide +kernel
theorem dX9_next_23 : decode cX9_next 23 = .ok (.iload_n 2, 1) := by decide +kernel
theorem dX9_next_24 : decode cX9_next 24 = .ok (.ifCond .eq 9, 3) := by decide +kernel
theorem dX9_next_27 : decode cX9_next 27 = .ok (.aload_n 0, 1) := by decide +kernel
theorem dX9_next_28 : decode cX9_next 28 = .ok (.iload_n 2, 1) := by decide +kernel
theorem dX9_next_29 : decode cX9_next 29 = .ok (.invokevirtual 96, 3) := by decide +kernel
theorem dX9_next_32 : decode cX9_next 32 = .ok (.ireturn, 1) := by decide +kernel
theorem dX9_next_33 : decode cX9_next 33 = .ok (.iconst 0, 1) := by decide +kernel
theorem dX9_next_34 : decode cX9_next 34 = .ok (.istore_n 3, 1) := by decide +kernel
theorem dX9_next_35 : decode cX9_next 35 = .ok (.iconst 0, 1) := by decide +kernel
theorem dX9_next_36 : decode cX9_next 36 = .ok (.istore 4, 2) := by decide +kernel
theorem dX9_next_38 : decode cX9_next 38 = .ok (.iload 4, 2) := by decide +kernel
theorem dX9_next_40 : decode cX9_next 40 = .ok (.aload_n 0, 1) := by decide +kernel
theorem dX9_next_41 : decode cX9_next 41 = .ok (.getfield 275, 3) := by decide +kernel
theorem dX9_next_44 : decode cX9_next 44 = .ok (.if_icmp .ge 28, 3) := by decide +kernel
theorem dX9_next_47 : decode cX9_next 47 = .ok (.iload_n 3, 1) := by decide +kernel
theorem dX9_next_48 : decode cX9_next 48 = .ok (.aload_n 0, 1) := by decide +kernel
theorem dX9_next_49 : decode cX9_next 49 = .ok (.getfield 80, 3) := by decide +kernel
theorem dX9_next_52 : decode cX9_next 52 = .ok (.iload 4, 2) := by decide +kernel
theorem dX9_next_54 : decode cX9_next 54 = .ok (.iaload, 1) := by decide +kernel
theorem dX9_next_55 : decode cX9_next 55 = .ok (.iload_n 1, 1) := by decide +kernel
theorem dX9_next_56 : decode cX9_next 56 = .ok (.if_icmp .gt 7, 3) := by decide +kernel
theorem dX9_next_59 : decode cX9_next 59 = .ok (.iconst 1, 1) := by decide +kernel
theorem dX9_next_60 : decode cX9_next 60 = .ok (.goto 4, 3) := by decide +kernel
theorem dX9_next_63 : decode cX9_next 63 = .ok (.iconst 0, 1) := by decide +kernel
theorem dX9_next_64 : decode cX9_next 64 = .ok (.iadd, 1) := by decide +kernel
theorem dX9_next_65 : decode cX9_next 65 = .ok (.istore_n 3, 1) := by decide +kernel
theorem dX9_next_66 : decode cX9_next 66 = .ok (.iinc 4 1, 3) := by decide +kernel
theorem dX9_next_69 : decode cX9_next 69 = .ok (.goto (-31), 3) := by decide +kernel
theorem dX9_next_72 : decode cX9_next 72 = .ok (.bipush 100, 2) := by decide +kernel
theorem dX9_next_74 : decode cX9_next 74 = .ok (.iload_n 3, 1) := by decide +kernel
theorem dX9_next_75 : decode cX9_next 75 = .ok (.imul, 1) := by decide +kernel
theorem dX9_next_76 : decode cX9_next 76 = .ok (.aload_n 0, 1) := by decide +kernel
theorem dX9_next_77 : decode cX9_next 77 = .ok (.getfield 275, 3) := by decide +kernel
theorem dX9_next_80 : decode cX9_next 80 = .ok (.idiv, 1) := by decide +kernel
theorem dX9_next_81 : decode cX9_next 81 = .ok (.istore_n 3, 1) := by decide +kernel
theorem dX9_next_82 : decode cX9_next 82 = .ok (.aload_n 0, 1) := by decide +kernel
theorem dX9_next_83 : decode cX9_next 83 = .ok (.iconst 0, 1) := by decide +kernel
theorem dX9_next_84 : decode cX9_next 84 = .ok (.putfield 275, 3) := by decide +kernel
theorem dX9_next_87 : decode cX9_next 87 = .ok (.iload_n 3, 1) := by decide +kernel
theorem dX9_next_88 : decode cX9_next 88 = .ok (.ireturn, 1) := by decide +kernel
theorem dX9_team_0 : decode cX9_team 0 = .ok (.aload_n 0, 1) := by decide +kernel
theorem dX9_team_1 : decode cX9_team 1 = .ok (.iload_n 1, 1) := by decide +kernel
theorem dX9_team_2 : decode cX9_team 2 = .ok (.invokevirtual 239, 3) := by decide +kernel
theorem dX9_team_5 : decode cX9_team 5 = .ok (.ifCond .eq 16, 3) := by decide +kernel
theorem dX9_team_8 : decode cX9_team 8 = .ok (.aload_n 0, 1) := by decide +kernel
theorem dX9_team_9 : decode cX9_team 9 = .ok (.iload_n 2, 1) := by decide +kernel
theorem dX9_team_10 : decode cX9_team 10 = .ok (.invokevirtual 239, 3) := by decide +kernel
theorem dX9_team_13 : decode cX9_team 13 = .ok (.ifCond .eq 8, 3) := by decide +kernel
theorem dX9_team_16 : decode cX9_team 16 = .ok (.iload_n 1, 1) := by decide +kernel
theorem dX9_team_17 : decode cX9_team 17 = .ok (.iload_n 2, 1) := by decide +kernel
theorem dX9_team_18 : decode cX9_team 18 = .ok (.if_icmp .ne 9, 3) := by decide +kernel
theorem dX9_team_21 : decode cX9_team 21 = .ok (.aload_n 0, 1) := by decide +kernel
theorem dX9_team_22 : decode cX9_team 22 = .ok (.iconst (-1), 1) := by decide +kernel
theorem dX9_team_23 : decode cX9_team 23 = .ok (.invokevirtual 96, 3) := by decide +kernel
theorem dX9_team_26 : decode cX9_team 26 = .ok (.ireturn, 1) := by decide +kernel
theorem dX9_team_27 : decode cX9_team 27 = .ok (.iload 4, 2) := by decide +kernel
theorem dX9_team_29 : decode cX9_team 29 = .ok (.iconst 0, 1) := by decide +kernel
theorem dX9_team_30 : decode cX9_team 30 = .ok (.iconst 1, 1) := by decide +kernel
theorem dX9_team_31 : decode cX9_team 31 = .ok (.invokestatic 108, 3) := by decide +kernel
theorem dX9_team_34 : decode cX9_team 34 = .ok (.ifCond .ne 10, 3) := by decide +kernel
theorem dX9_team_37 : decode cX9_team 37 = .ok (.aload_n 0, 1) := by decide +kernel
theorem dX9_team_38 : decode cX9_team 38 = .ok (.bipush (-2), 2) := by decide +kernel
theorem dX9_team_40 : decode cX9_team 40 = .ok (.invokevirtual 96, 3) := by decide +kernel
theorem dX9_team_43 : decode cX9_team 43 = .ok (.ireturn, 1) := by decide +kernel
theorem dX9_team_44 : decode cX9_team 44 = .ok (.iload_n 3, 1) := by decide +kernel
theorem dX9_team_45 : decode cX9_team 45 = .ok (.iconst 1, 1) := by decide +kernel
theorem dX9_team_46 : decode cX9_team 46 = .ok (.sipush 200, 3) := by decide +kernel
theorem dX9_team_49 : decode cX9_team 49 = .ok (.invokestatic 112, 3) := by decide +kernel
theorem dX9_team_52 : decode cX9_team 52 = .ok (.istore 5, 2) := by decide +kernel
theorem dX9_team_54 : decode cX9_team 54 = .ok (.iload 5, 2) := by decide +kernel
theorem dX9_team_56 : decode cX9_team 56 = .ok (.ifCond .eq 10, 3) := by decide +kernel
theorem dX9_team_59 : decode cX9_team 59 = .ok (.aload_n 0, 1) := by decide +kernel
theorem dX9_team_60 : decode cX9_team 60 = .ok (.iload 5, 2) := by decide +kernel
theorem dX9_team_62 : decode cX9_team 62 = .ok (.invokevirtual 96, 3) := by decide +kernel
theorem dX9_team_65 : decode cX9_team 65 = .ok (.ireturn, 1) := by decide +kernel
theorem dX9_team_66 : decode cX9_team 66 = .ok (.aload_n 0, 1) := by decide +kernel
theorem dX9_team_67 : decode cX9_team 67 = .ok (.iload_n 3, 1) := by decide +kernel
theorem dX9_team_68 : decode cX9_team 68 = .ok (.iload_n 1, 1) := by decide +kernel
theorem dX9_team_69 : decode cX9_team 69 = .ok (.iload_n 2, 1) := by decide +kernel
theorem dX9_team_70 : decode cX9_team 70 = .ok (.invokevirtual 248, 3) := by decide +kernel
theorem dX9_team_73 : decode cX9_team 73 = .ok (.iload 4, 2) := by decide +kernel
theorem dX9_team_75 : decode cX9_team 75 = .ok (.iconst 1, 1) := by decide +kernel
theorem dX9_team_76 : decode cX9_team 76 = .ok (.if_icmp .ne 10, 3) := by decide +kernel
theorem dX9_team_79 : decode cX9_team 79 = .ok (.aload_n 0, 1) := by decide +kernel
theorem dX9_team_80 : decode cX9_team 80 = .ok (.getfield 245, 3) := by decide +kernel
theorem dX9_team_83 : decode cX9_team 83 = .ok (.goto 38, 3) := by decide +kernel
theorem dX9_team_86 : decode cX9_team 86 = .ok (.aload_n 0, 1) := by decide +kernel
theorem dX9_team_87 : decode cX9_team 87 = .ok (.getfield 242, 3) := by decide +kernel
theorem dX9_team_90 : decode cX9_team 90 = .ok (.aload_n 0, 1) := by decide +kernel
theorem dX9_team_91 : decode cX9_team 91 = .ok (.getfield 77, 3) := by decide +kernel
theorem dX9_team_94 : decode cX9_team 94 = .ok (.iload_n 1, 1) := by decide +kernel
theorem dX9_team_95 : decode cX9_team 95 = .ok (.iaload, 1) := by decide +kernel
theorem dX9_team_96 : decode cX9_team 96 = .ok (.aload_n 0, 1) := by decide +kernel
theorem dX9_team_97 : decode cX9_team 97 = .ok (.getfield 77, 3) := by decide +kernel
theorem dX9_team_100 : decode cX9_team 100 = .ok (.iload_n 2, 1) := by decide +kernel
theorem dX9_team_101 : decode cX9_team 101 = .ok (.iaload, 1) := by decide +kernel
theorem dX9_team_102 : decode cX9_team 102 = .ok (.if_icmp .le 12, 3) := by decide +kernel
theorem dX9_team_105 : decode cX9_team 105 = .ok (.aload_n 0, 1) := by decide +kernel
theorem dX9_team_106 : decode cX9_team 106 = .ok (.getfield 77, 3) := by decide +kernel
theorem dX9_team_109 : decode cX9_team 109 = .ok (.iload_n 1, 1) := by decide +kernel
theorem dX9_team_110 : decode cX9_team 110 = .ok (.iaload, 1) := by decide +kernel
theorem dX9_team_111 : decode cX9_team 111 = .ok (.goto 9, 3) := by decide +kernel
theorem dX9_team_114 : decode cX9_team 114 = .ok (.aload_n 0, 1) := by decide +kernel
theorem dX9_team_115 : decode cX9_team 115 = .ok (.getfield 77, 3) := by decide +kernel
theorem dX9_team_118 : decode cX9_team 118 = .ok (.iload_n 2, 1) := by decide +kernel
theorem dX9_team_119 : decode cX9_team 119 = .ok (.iaload, 1) := by decide +kernel
theorem dX9_team_120 : decode cX9_team 120 = .ok (.isub, 1) := by decide +kernel
theorem dX9_team_121 : decode cX9_team 121 = .ok (.ireturn, 1) := by decide +kernel
theorem dX9_film_0 : decode cX9_film 0 = .ok (.aload_n 0, 1) := by decide +kernel
theorem dX9_film_1 : decode cX9_film 1 = .ok (.iload_n 1, 1) := by decide +kernel
theorem dX9_film_2 : decode cX9_film 2 = .ok (.invokevirtual 92, 3) := by decide +kernel
theorem dX9_film_5 : decode cX9_film 5 = .ok (.ifCond .ne 9, 3) := by decide +kernel
theorem dX9_film_8 : decode cX9_film 8 = .ok (.aload_n 0, 1) := by decide +kernel
theorem dX9_film_9 : decode cX9_film 9 = .ok (.iconst (-1), 1) := by decide +kernel
theorem dX9_film_10 : decode cX9_film 10 = .ok (.invokevirtual 96, 3) := by decide +kernel
theorem dX9_film_13 : decode cX9_film 13 = .ok (.ireturn, 1) := by decide +kernel
theorem dX9_film_14 : decode cX9_film 14 = .ok (.aload_n 0, 1) := by decide +kernel
theorem dX9_film_15 : decode cX9_film 15 = .ok (.getfield 278, 3) := by decide +kernel
theorem dX9_film_18 : decode cX9_film 18 = .ok (.bipush 60, 2) := by decide +kernel
theorem dX9_film_20 : decode cX9_film 20 = .ok (.if_icmp .ne 10, 3) := by decide +kernel
theorem dX9_film_23 : decode cX9_film 23 = .ok (.aload_n 0, 1) := by decide +kernel
theorem dX9_film_24 : decode cX9_film 24 = .ok (.bipush (-6), 2) := by decide +kernel
theorem dX9_film_26 : decode cX9_film 26 = .ok (.invokevirtual 96, 3) := by decide +kernel
theorem dX9_film_29 : decode cX9_film 29 = .ok (.ireturn, 1) := by decide +kernel
theorem dX9_film_30 : decode cX9_film 30 = .ok (.aload_n 0, 1) := by decide +kernel
theorem dX9_film_31 : decode cX9_film 31 = .ok (.getfield 83, 3) := by decide +kernel
theorem dX9_film_34 : decode cX9_film 34 = .ok (.aload_n 0, 1) := by decide +kernel
theorem dX9_film_35 : decode cX9_film 35 = .ok (.getfield 278, 3) := by decide +kernel
theorem dX9_film_38 : decode cX9_film 38 = .ok (.iload_n 1, 1) := by decide +kernel
theorem dX9_film_39 : decode cX9_film 39 = .ok (.iastore, 1) := by decide +kernel
theorem dX9_film_40 : decode cX9_film 40 = .ok (.aload_n 0, 1) := by decide +kernel
theorem dX9_film_41 : decode cX9_film 41 = .ok (.dup, 1) := by decide +kernel
theorem dX9_film_42 : decode cX9_film 42 = .ok (.getfield 278, 3) := by decide +kernel
theorem dX9_film_45 : decode cX9_film 45 = .ok (.iconst 1, 1) := by decide +kernel
theorem dX9_film_46 : decode cX9_film 46 = .ok (.iadd, 1) := by decide +kernel
theorem dX9_film_47 : decode cX9_film 47 = .ok (.putfield 278, 3) := by decide +kernel
theorem dX9_film_50 : decode cX9_film 50 = .ok (.aload_n 0, 1) := by decide +kernel
theorem dX9_film_51 : decode cX9_film 51 = .ok (.getfield 278, 3) := by decide +kernel
theorem dX9_film_54 : decode cX9_film 54 = .ok (.ireturn, 1) := by decide +kernel
theorem dX9_judge_0 : decode cX9_judge 0 = .ok (.aload_n 0, 1) := by decide +kernel
theorem dX9_judge_1 : decode cX9_judge 1 = .ok (.iload_n 1, 1) := by decide +kernel
theorem dX9_judge_2 : decode cX9_judge 2 = .ok (.invokevirtual 239, 3) := by decide +kernel
theorem dX9_judge_5 : decode cX9_judge 5 = .ok (.ifCond .ne 9, 3) := by decide +kernel
theorem dX9_judge_8 : decode cX9_judge 8 = .ok (.aload_n 0, 1) := by decide +kernel
theorem dX9_judge_9 : decode cX9_judge 9 = .ok (.iconst (-1), 1) := by decide +kernel
theorem dX9_judge_10 : decode cX9_judge 10 = .ok (.invokevirtual 96, 3) := by decide +kernel
theorem dX9_judge_13 : decode cX9_judge 13 = .ok (.ireturn, 1) := by decide +kernel
theorem dX9_judge_14 : decode cX9_judge 14 = .ok (.aload_n 0, 1) := by decide +kernel
theorem dX9_judge_15 : decode cX9_judge 15 = .ok (.getfield 278, 3) := by decide +kernel
theorem dX9_judge_18 : decode cX9_judge 18 = .ok (.istore_n 2, 1) := by decide +kernel
theorem dX9_judge_19 : decode cX9_judge 19 = .ok (.aload_n 0, 1) := by decide +kernel
theorem dX9_judge_20 : decode cX9_judge 20 = .ok (.iconst 0, 1) := by decide +kernel
theorem dX9_judge_21 : decode cX9_judge 21 = .ok (.putfield 278, 3) := by decide +kernel
theorem dX9_judge_24 : decode cX9_judge 24 = .ok (.aload_n 0, 1) := by decide +kernel
theorem dX9_judge_25 : decode cX9_judge 25 = .ok (.iconst 1, 1) := by decide +kernel
theorem dX9_judge_26 : decode cX9_judge 26 = .ok (.iconst 1, 1) := by decide +kernel
theorem dX9_judge_27 : decode cX9_judge 27 = .ok (.invokevirtual 163, 3) := by decide +kernel
theorem dX9_judge_30 : decode cX9_judge 30 = .ok (.bipush (-9), 2) := by decide +kernel
theorem dX9_judge_32 : decode cX9_judge 32 = .ok (.istore_n 3, 1) := by decide +kernel
theorem dX9_judge_33 : decode cX9_judge 33 = .ok (.iconst 0, 1) := by decide +kernel
theorem dX9_judge_34 : decode cX9_judge 34 = .ok (.istore 4, 2) := by decide +kernel
theorem dX9_judge_36 : decode cX9_judge 36 = .ok (.iload 4, 2) := by decide +kernel
theorem dX9_judge_38 : decode cX9_judge 38 = .ok (.iload_n 2, 1) := by decide +kernel
theorem dX9_judge_39 : decode cX9_judge 39 = .ok (.if_icmp .ge 36, 3) := by decide +kernel
theorem dX9_judge_42 : decode cX9_judge 42 = .ok (.iload_n 3, 1) := by decide +kernel
theorem dX9_judge_43 : decode cX9_judge 43 = .ok (.ifCond .ge 32, 3) := by decide +kernel
theorem dX9_judge_46 : decode cX9_judge 46 = .ok (.aload_n 0, 1) := by decide +kernel
theorem dX9_judge_47 : decode cX9_judge 47 = .ok (.invokevirtual 224, 3) := by decide +kernel
theorem dX9_judge_50 : decode cX9_judge 50 = .ok (.aload_n 0, 1) := by decide +kernel
theorem dX9_judge_51 : decode cX9_judge 51 = .ok (.getfield 16, 3) := by decide +kernel
theorem dX9_judge_54 : decode cX9_judge 54 = .ok (.iload_n 1, 1) := by decide +kernel
theorem dX9_judge_55 : decode cX9_judge 55 = .ok (.iaload, 1) := by decide +kernel
theorem dX9_judge_56 : decode cX9_judge 56 = .ok (.aload_n 0, 1) := by decide +kernel
theorem dX9_judge_57 : decode cX9_judge 57 = .ok (.getfield 83, 3) := by decide +kernel
theorem dX9_judge_60 : decode cX9_judge 60 = .ok (.iload 4, 2) := by decide +kernel
theorem dX9_judge_62 : decode cX9_judge 62 = .ok (.iaload, 1) := by decide +kernel
theorem dX9_judge_63 : decode cX9_judge 63 = .ok (.if_icmp .eq 6, 3) := by decide +kernel
theorem dX9_judge_66 : decode cX9_judge 66 = .ok (.iload 4, 2) := by decide +kernel
theorem dX9_judge_68 : decode cX9_judge 68 = .ok (.istore_n 3, 1) := by decide +kernel
theorem dX9_judge_69 : decode cX9_judge 69 = .ok (.iinc 4 1, 3) := by decide +kernel
theorem dX9_judge_72 : decode cX9_judge 72 = .ok (.goto (-36), 3) := by decide +kernel
theorem dX9_judge_75 : decode cX9_judge 75 = .ok (.aload_n 0, 1) := by decide +kernel
theorem dX9_judge_76 : decode cX9_judge 76 = .ok (.iconst 1, 1) := by decide +kernel
theorem dX9_judge_77 : decode cX9_judge 77 = .ok (.iconst 0, 1) := by decide +kernel
theorem dX9_judge_78 : decode cX9_judge 78 = .ok (.invokevirtual 163, 3) := by decide +kernel
theorem dX9_judge_81 : decode cX9_judge 81 = .ok (.iload_n 3, 1) := by decide +kernel
theorem dX9_judge_82 : decode cX9_judge 82 = .ok (.ireturn, 1) := by decide +kernel
theorem dX9_image_0 : decode cX9_image 0 = .ok (.aload_n 0, 1) := by decide +kernel
theorem dX9_image_1 : decode cX9_image 1 = .ok (.iconst 1, 1) := by decide +kernel
theorem dX9_image_2 : decode cX9_image 2 = .ok (.putfield 281, 3) := by decide +kernel
theorem dX9_image_5 : decode cX9_image 5 = .ok (.aload_n 0, 1) := by decide +kernel
theorem dX9_image_6 : decode cX9_image 6 = .ok (.iconst 0, 1) := by decide +kernel
theorem dX9_image_7 : decode cX9_image 7 = .ok (.iconst 1, 1) := by decide +kernel
theorem dX9_image_8 : decode cX9_image 8 = .ok (.invokevirtual 163, 3) := by decide +kernel
theorem dX9_image_11 : decode cX9_image 11 = .ok (.aload_n 0, 1) := by decide +kernel
theorem dX9_image_12 : decode cX9_image 12 = .ok (.getfield 86, 3) := by decide +kernel
theorem dX9_image_15 : decode cX9_image 15 = .ok (.ireturn, 1) := by decide +kernel
theorem dX9_restore_0 : decode cX9_restore 0 = .ok (.aload_n 0, 1) := by decide +kernel
theorem dX9_restore_1 : decode cX9_restore 1 = .ok (.getfield 281, 3) := by decide +kernel
theorem dX9_restore_4 : decode cX9_restore 4 = .ok (.ifCond .ne 10, 3) := by decide +kernel
theorem dX9_restore_7 : decode cX9_restore 7 = .ok (.aload_n 0, 1) := by decide +kernel
theorem dX9_restore_8 : decode cX9_restore 8 = .ok (.bipush (-3), 2) := by decide +kernel
theorem dX9_restore_10 : decode cX9_restore 10 = .ok (.invokevirtual 96, 3) := by decide +kernel
theorem dX9_restore_13 : decode cX9_restore 13 = .ok (.ireturn, 1) := by decide +kernel
theorem dX9_restore_14 : decode cX9_restore 14 = .ok (.aload_n 0, 1) := by decide +kernel
theorem dX9_restore_15 : decode cX9_restore 15 = .ok (.iconst 0, 1) := by decide +kernel
theorem dX9_restore_16 : decode cX9_restore 16 = .ok (.iconst 0, 1) := by decide +kernel
theorem dX9_restore_17 : decode cX9_restore 17 = .ok (.invokevirtual 163, 3) := by decide +kernel
theorem dX9_restore_20 : decode cX9_restore 20 = .ok (.aload_n 0, 1) := by decide +kernel
theorem dX9_restore_21 : decode cX9_restore 21 = .ok (.getfield 86, 3) := by decide +kernel
theorem dX9_restore_24 : decode cX9_restore 24 = .ok (.ireturn, 1) := by decide +kernel
theorem dX9_count_0 : decode cX9_count 0 = .ok (.iload_n 1, 1) := by decide +kernel
theorem dX9_count_1 : decode cX9_count 1 = .ok (.bipush 11, 2) := by decide +kernel
theorem dX9_count_3 : decode cX9_count 3 = .ok (.bipush 16, 2) := by decide +kernel
theorem dX9_count_5 : decode cX9_count 5 = .ok (.invokestatic 108, 3) := by decide +kernel
theorem dX9_count_8 : decode cX9_count 8 = .ok (.ifCond .eq 13, 3) := by decide +kernel
theorem dX9_count_11 : decode cX9_count 11 = .ok (.aload_n 0, 1) := by decide +kernel
theorem dX9_count_12 : decode cX9_count 12 = .ok (.getfield 7, 3) := by decide +kernel
theorem dX9_count_15 : decode cX9_count 15 = .ok (.iload_n 1, 1) := by decide +kernel
theorem dX9_count_16 : decode cX9_count 16 = .ok (.bipush 10, 2) := by decide +kernel
theorem dX9_count_18 : decode cX9_count 18 = .ok (.isub, 1) := by decide +kernel
theorem dX9_count_19 : decode cX9_count 19 = .ok (.iaload, 1) := by decide +kernel
theorem dX9_count_20 : decode cX9_count 20 = .ok (.ireturn, 1) := by decide +kernel
theorem dX9_count_21 : decode cX9_count 21 = .ok (.iload_n 1, 1) := by decide +kernel
theorem dX9_count_22 : decode cX9_count 22 = .ok (.tableswitch 95 0 8 #[50, 55, 60, 65, 70, 75, 80, 85, 90], 50) := by decide +kernel
theorem dX9_count_72 : decode cX9_count 72 = .ok (.aload_n 0, 1) := by decide +kernel
theorem dX9_count_73 : decode cX9_count 73 = .ok (.getfield 43, 3) := by decide +kernel
theorem dX9_count_76 : decode cX9_count 76 = .ok (.ireturn, 1) := by decide +kernel
theorem dX9_count_77 : decode cX9_count 77 = .ok (.aload_n 0, 1) := by decide +kernel
theorem dX9_count_78 : decode cX9_count 78 = .ok (.invokevirtual 100, 3) := by decide +kernel
theorem dX9_count_81 : decode cX9_count 81 = .ok (.ireturn, 1) := by decide +kernel
theorem dX9_count_82 : decode cX9_count 82 = .ok (.aload_n 0, 1) := by decide +kernel
theorem dX9_count_83 : decode cX9_count 83 = .ok (.getfield 86, 3) := by decide +kernel
theorem dX9_count_86 : decode cX9_count 86 = .ok (.ireturn, 1) := by decide +kernel
theorem dX9_count_87 : decode cX9_count 87 = .ok (.aload_n 0, 1) := by decide +kernel
theorem dX9_count_88 : decode cX9_count 88 = .ok (.invokevirtual 218, 3) := by decide +kernel
theorem dX9_count_91 : decode cX9_count 91 = .ok (.ireturn, 1) := by decide +kernel
theorem dX9_count_92 : decode cX9_count 92 = .ok (.aload_n 0, 1) := by decide +kernel
theorem dX9_count_93 : decode cX9_count 93 = .ok (.getfield 184, 3) := by decide +kernel
theorem dX9_count_96 : decode cX9_count 96 = .ok (.ireturn, 1) := by decide +kernel
theorem dX9_count_97 : decode cX9_count 97 = .ok (.aload_n 0, 1) := by decide +kernel
theorem dX9_count_98 : decode cX9_count 98 = .ok (.getfield 187, 3) := by decide +kernel
theorem dX9_count_101 : decode cX9_count 101 = .ok (.ireturn, 1) := by decide +kernel
theorem dX9_count_102 : decode cX9_count 102 = .ok (.aload_n 0, 1) := by decide +kernel
theorem dX9_count_103 : decode cX9_count 103 = .ok (.getfield 275, 3) := by decide +kernel
theorem dX9_count_106 : decode cX9_count 106 = .ok (.ireturn, 1) := by decide +kernel
theorem dX9_count_107 : decode cX9_count 107 = .ok (.aload_n 0, 1) := by decide +kernel
theorem dX9_count_108 : decode cX9_count 108 = .ok (.getfield 278, 3) := by decide +kernel
theorem dX9_count_111 : decode cX9_count 111 = .ok (.ireturn, 1) := by decide +kernel
theorem dX9_count_112 : decode cX9_count 112 = .ok (.aload_n 0, 1) := by decide +kernel
theorem dX9_count_113 : decode cX9_count 113 = .ok (.getfield 139, 3) := by decide +kernel
theorem dX9_count_116 : decode cX9_count 116 = .ok (.ireturn, 1) := by decide +kernel
theorem dX9_count_117 : decode cX9_count 117 = .ok (.bipush (-9), 2) := by decide +kernel
theorem dX9_count_119 : decode cX9_count 119 = .ok (.ireturn, 1) := by decide +kernel
theorem dJ6_bitCount_0f7a4_0 : decode cJ6_bitCount_0f7a4 0 = .ok (.iload_n 0, 1) := by decide +kernel
theorem dJ6_bitCount_0f7a4_1 : decode cJ6_bitCount_0f7a4 1 = .ok (.iload_n 0, 1) := by decide +kernel
theorem dJ6_bitCount_0f7a4_2 : decode cJ6_bitCount_0f7a4 2 = .ok (.iconst 1, 1) := by decide +kernel
theorem dJ6_bitCount_0f7a4_3 : decode cJ6_bitCount_0f7a4 3 = .ok (.iushr, 1) := by decide +kernel
theorem dJ6_bitCount_0f7a4_4 : decode cJ6_bitCount_0f7a4 4 = .ok (.ldc_w 265, 3) := by decide +kernel
theorem dJ6_bitCount_0f7a4_7 : decode cJ6_bitCount_0f7a4 7 = .ok (.iand, 1) := by decide +kernel
theorem dJ6_bitCount_0f7a4_8 : decode cJ6_bitCount_0f7a4 8 = .ok (.isub, 1) := by decide +kernel
theorem dJ6_bitCount_0f7a4_9 : decode cJ6_bitCount_0f7a4 9 = .ok (.istore_n 0, 1) := by decide +kernel
theorem dJ6_bitCount_0f7a4_10 : decode cJ6_bitCount_0f7a4 10 = .ok (.iload_n 0, 1) := by decide +kernel
theorem dJ6_bitCount_0f7a4_11 : decode cJ6_bitCount_0f7a4 11 = .ok (.ldc_w 266, 3) := by decide +kernel
theorem dJ6_bitCount_0f7a4_14 : decode cJ6_bitCount_0f7a4 14 = .ok (.iand, 1) := by decide +kernel
theorem dJ6_bitCount_0f7a4_15 : decode cJ6_bitCount_0f7a4 15 = .ok (.iload_n 0, 1) := by decide +kernel
theorem dJ6_bitCount_0f7a4_16 : decode cJ6_bitCount_0f7a4 16 = .ok (.iconst 2, 1) := by decide +kernel
theorem dJ6_bitCount_0f7a4_17 : decode cJ6_bitCount_0f7a4 17 = .ok (.iushr, 1) := by decide +kernel
theorem dJ6_bitCount_0f7a4_18 : decode cJ6_bitCount_0f7a4 18 = .ok (.ldc_w 266, 3) := by decide +kernel
theorem dJ6_bitCount_0f7a4_21 : decode cJ6_bitCount_0f7a4 21 = .ok (.iand, 1) := by decide +kernel
theorem dJ6_bitCount_0f7a4_22 : decode cJ6_bitCount_0f7a4 22 = .ok (.iadd, 1) := by decide +kernel
theorem dJ6_bitCount_0f7a4_23 : decode cJ6_bitCount_0f7a4 23 = .ok (.istore_n 0, 1) := by decide +kernel
theorem dJ6_bitCount_0f7a4_24 : decode cJ6_bitCount_0f7a4 24 = .ok (.iload_n 0, 1) := by decide +kernel
theorem dJ6_bitCount_0f7a4_25 : decode cJ6_bitCount_0f7a4 25 = .ok (.iload_n 0, 1) := by decide +kernel
theorem dJ6_bitCount_0f7a4_26 : decode cJ6_bitCount_0f7a4 26 = .ok (.iconst 4, 1) := by decide +kernel
theorem dJ6_bitCount_0f7a4_27 : decode cJ6_bitCount_0f7a4 27 = .ok (.iushr, 1) := by decide +kernel
theorem dJ6_bitCount_0f7a4_28 : decode cJ6_bitCount_0f7a4 28 = .ok (.iadd, 1) := by decide +kernel
theorem dJ6_bitCount_0f7a4_29 : decode cJ6_bitCount_0f7a4 29 = .ok (.ldc_w 267, 3) := by decide +kernel
theorem dJ6_bitCount_0f7a4_32 : decode cJ6_bitCount_0f7a4 32 = .ok (.iand, 1) := by decide +kernel
theorem dJ6_bitCount_0f7a4_33 : decode cJ6_bitCount_0f7a4 33 = .ok (.istore_n 0, 1) := by decide +kernel
theorem dJ6_bitCount_0f7a4_34 : decode cJ6_bitCount_0f7a4 34 = .ok (.iload_n 0, 1) := by decide +kernel
theorem dJ6_bitCount_0f7a4_35 : decode cJ6_bitCount_0f7a4 35 = .ok (.iload_n 0, 1) := by decide +kernel
theorem dJ6_bitCount_0f7a4_36 : decode cJ6_bitCount_0f7a4 36 = .ok (.bipush 8, 2) := by decide +kernel
theorem dJ6_bitCount_0f7a4_38 : decode cJ6_bitCount_0f7a4 38 = .ok (.iushr, 1) := by decide +kernel
theorem dJ6_bitCount_0f7a4_39 : decode cJ6_bitCount_0f7a4 39 = .ok (.iadd, 1) := by decide +kernel
theorem dJ6_bitCount_0f7a4_40 : decode cJ6_bitCount_0f7a4 40 = .ok (.istore_n 0, 1) := by decide +kernel
theorem dJ6_bitCount_0f7a4_41 : decode cJ6_bitCount_0f7a4 41 = .ok (.iload_n 0, 1) := by decide +kernel
theorem dJ6_bitCount_0f7a4_42 : decode cJ6_bitCount_0f7a4 42 = .ok (.iload_n 0, 1) := by decide +kernel
theorem dJ6_bitCount_0f7a4_43 : decode cJ6_bitCount_0f7a4 43 = .ok (.bipush 16, 2) := by decide +kernel
theorem dJ6_bitCount_0f7a4_45 : decode cJ6_bitCount_0f7a4 45 = .ok (.iushr, 1) := by decide +kernel
theorem dJ6_bitCount_0f7a4_46 : decode cJ6_bitCount_0f7a4 46 = .ok (.iadd, 1) := by decide +kernel
theorem dJ6_bitCount_0f7a4_47 : decode cJ6_bitCount_0f7a4 47 = .ok (.istore_n 0, 1) := by decide +kernel
theorem dJ6_bitCount_0f7a4_48 : decode cJ6_bitCount_0f7a4 48 = .ok (.iload_n 0, 1) := by decide +kernel
theorem dJ6_bitCount_0f7a4_49 : decode cJ6_bitCount_0f7a4 49 = .ok (.bipush 63, 2) := by decide +kernel
theorem dJ6_bitCount_0f7a4_51 : decode cJ6_bitCount_0f7a4 51 = .ok (.iand, 1) := by decide +kernel
theorem dJ6_bitCount_0f7a4_52 : decode cJ6_bitCount_0f7a4 52 = .ok (.ireturn, 1) := by decide +kernel
theorem dJ9_max_7cf53_0 : decode cJ9_max_7cf53 0 = .ok (.iload_n 0, 1) := by decide +kernel
theorem dJ9_max_7cf53_1 : decode cJ9_max_7cf53 1 = .ok (.iload_n 1, 1) := by decide +kernel
theorem dJ9_max_7cf53_2 : decode cJ9_max_7cf53 2 = .ok (.if_icmp .lt 7, 3) := by decide +kernel
theorem dJ9_max_7cf53_5 : decode cJ9_max_7cf53 5 = .ok (.iload_n 0, 1) := by decide +kernel
theorem dJ9_max_7cf53_6 : decode cJ9_max_7cf53 6 = .ok (.goto 4, 3) := by decide +kernel
theorem dJ9_max_7cf53_9 : decode cJ9_max_7cf53 9 = .ok (.iload_n 1, 1) := by decide +kernel
theorem dJ9_max_7cf53_10 : decode cJ9_max_7cf53 10 = .ok (.ireturn, 1) := by decide +kernel
theorem dJ9_min_7cf53_0 : decode cJ9_min_7cf53 0 = .ok (.iload_n 0, 1) := by decide +kernel
theorem dJ9_min_7cf53_1 : decode cJ9_min_7cf53 1 = .ok (.iload_n 1, 1) := by decide +kernel
theorem dJ9_min_7cf53_2 : decode cJ9_min_7cf53 2 = .ok (.if_icmp .gt 7, 3) := by decide +kernel
theorem dJ9_min_7cf53_5 : decode cJ9_min_7cf53 5 = .ok (.iload_n 0, 1) := by decide +kernel
theorem dJ9_min_7cf53_6 : decode cJ9_min_7cf53 6 = .ok (.goto 4, 3) := by decide +kernel
theorem dJ9_min_7cf53_9 : decode cJ9_min_7cf53 9 = .ok (.iload_n 1, 1) := by decide +kernel
theorem dJ9_min_7cf53_10 : decode cJ9_min_7cf53 10 = .ok (.ireturn, 1) := by decide +kernel
theorem dJ0_length_8abf5_0 : decode cJ0_length_8abf5 0 = .ok (.aload_n 0, 1) := by decide +kernel
theorem dJ0_length_8abf5_1 : decode cJ0_length_8abf5 1 = .ok (.getfield 9, 3) := by decide +kernel
theorem dJ0_length_8abf5_4 : decode cJ0_length_8abf5 4 = .ok (.arraylength, 1) := by decide +kernel
theorem dJ0_length_8abf5_5 : decode cJ0_length_8abf5 5 = .ok (.aload_n 0, 1) := by decide +kernel
theorem dJ0_length_8abf5_6 : decode cJ0_length_8abf5 6 = .ok (.invokevirtual 335, 3) := by decide +kernel
theorem dJ0_length_8abf5_9 : decode cJ0_length_8abf5 9 = .ok (.ishr, 1) := by decide +kernel
theorem dJ0_length_8abf5_10 : decode cJ0_length_8abf5 10 = .ok (.ireturn, 1) := by decide +kernel
theorem dJ0_isEmpty_aae02_0 : decode cJ0_isEmpty_aae02 0 = .ok (.aload_n 0, 1) := by decide +kernel
theorem dJ0_isEmpty_aae02_1 : decode cJ0_isEmpty_aae02 1 = .ok (.getfield 9, 3) := by decide +kernel
theorem dJ0_isEmpty_aae02_4 : decode cJ0_isEmpty_aae02 4 = .ok (.arraylength, 1) := by decide +kernel
theorem dJ0_isEmpty_aae02_5 : decode cJ0_isEmpty_aae02 5 = .ok (.ifCond .ne 7, 3) := by decide +kernel
theorem dJ0_isEmpty_aae02_8 : decode cJ0_isEmpty_aae02 8 = .ok (.iconst 1, 1) := by decide +kernel
theorem dJ0_isEmpty_aae02_9 : decode cJ0_isEmpty_aae02 9 = .ok (.goto 4, 3) := by decide +kernel
theorem dJ0_isEmpty_aae02_12 : decode cJ0_isEmpty_aae02 12 = .ok (.iconst 0, 1) := by decide +kernel
theorem dJ0_isEmpty_aae02_13 : decode cJ0_isEmpty_aae02 13 = .ok (.ireturn, 1) := by decide +kernel
theorem dJ0_charAt_5068e_0 : decode cJ0_charAt_5068e 0 = .ok (.aload_n 0, 1) := by decide +kernel
theorem dJ0_charAt_5068e_1 : decode cJ0_charAt_5068e 1 = .ok (.invokevirtual 492, 3) := by decide +kernel
theorem dJ0_charAt_5068e_4 : decode cJ0_charAt_5068e 4 = .ok (.ifCond .eq 12, 3) := by decide +kernel
theorem dJ0_charAt_5068e_7 : decode cJ0_charAt_5068e 7 = .ok (.aload_n 0, 1) := by decide +kernel
theorem dJ0_charAt_5068e_8 : decode cJ0_charAt_5068e 8 = .ok (.getfield 9, 3) := by decide +kernel
theorem dJ0_charAt_5068e_11 : decode cJ0_charAt_5068e 11 = .ok (.iload_n 1, 1) := by decide +kernel
theorem dJ0_charAt_5068e_12 : decode cJ0_charAt_5068e 12 = .ok (.invokestatic 495, 3) := by decide +kernel
theorem dJ0_charAt_5068e_15 : decode cJ0_charAt_5068e 15 = .ok (.ireturn, 1) := by decide +kernel
theorem dJ0_charAt_5068e_16 : decode cJ0_charAt_5068e 16 = .ok (.aload_n 0, 1) := by decide +kernel
theorem dJ0_charAt_5068e_17 : decode cJ0_charAt_5068e 17 = .ok (.getfield 9, 3) := by decide +kernel
theorem dJ0_charAt_5068e_20 : decode cJ0_charAt_5068e 20 = .ok (.iload_n 1, 1) := by decide +kernel
theorem dJ0_charAt_5068e_21 : decode cJ0_charAt_5068e 21 = .ok (.invokestatic 498, 3) := by decide +kernel
theorem dJ0_charAt_5068e_24 : decode cJ0_charAt_5068e 24 = .ok (.ireturn, 1) := by decide +kernel
theorem dJ0_coder_7d493_0 : decode cJ0_coder_7d493 0 = .ok (.getstatic 38, 3) := by decide +kernel
theorem dJ0_coder_7d493_3 : decode cJ0_coder_7d493 3 = .ok (.ifCond .eq 10, 3) := by decide +kernel
theorem dJ0_coder_7d493_6 : decode cJ0_coder_7d493 6 = .ok (.aload_n 0, 1) := by decide +kernel
theorem dJ0_coder_7d493_7 : decode cJ0_coder_7d493 7 = .ok (.getfield 15, 3) := by decide +kernel
theorem dJ0_coder_7d493_10 : decode cJ0_coder_7d493 10 = .ok (.goto 4, 3) := by decide +kernel
theorem dJ0_coder_7d493_13 : decode cJ0_coder_7d493 13 = .ok (.iconst 1, 1) := by decide +kernel
theorem dJ0_coder_7d493_14 : decode cJ0_coder_7d493 14 = .ok (.ireturn, 1) := by decide +kernel
theorem dJ0_isLatin1_aae02_0 : decode cJ0_isLatin1_aae02 0 = .ok (.getstatic 38, 3) := by decide +kernel
theorem dJ0_isLatin1_aae02_3 : decode cJ0_isLatin1_aae02 3 = .ok (.ifCond .eq 14, 3) := by decide +kernel
theorem dJ0_isLatin1_aae02_6 : decode cJ0_isLatin1_aae02 6 = .ok (.aload_n 0, 1) := by decide +kernel
theorem dJ0_isLatin1_aae02_7 : decode cJ0_isLatin1_aae02 7 = .ok (.getfield 15, 3) := by decide +kernel
theorem dJ0_isLatin1_aae02_10 : decode cJ0_isLatin1_aae02 10 = .ok (.ifCond .ne 7, 3) := by decide +kernel
theorem dJ0_isLatin1_aae02_13 : decode cJ0_isLatin1_aae02 13 = .ok (.iconst 1, 1) := by decide +kernel
theorem dJ0_isLatin1_aae02_14 : decode cJ0_isLatin1_aae02 14 = .ok (.goto 4, 3) := by decide +kernel
theorem dJ0_isLatin1_aae02_17 : decode cJ0_isLatin1_aae02 17 = .ok (.iconst 0, 1) := by decide +kernel
theorem dJ0_isLatin1_aae02_18 : decode cJ0_isLatin1_aae02 18 = .ok (.ireturn, 1) := by decide +kernel
theorem dJ0_checkIndex_df160_0 : decode cJ0_checkIndex_df160 0 = .ok (.iload_n 0, 1) := by decide +kernel
theorem dJ0_checkIndex_df160_1 : decode cJ0_checkIndex_df160 1 = .ok (.iload_n 1, 1) := by decide +kernel
theorem dJ0_checkIndex_df160_2 : decode cJ0_checkIndex_df160 2 = .ok (.getstatic 1053, 3) := by decide +kernel
theorem dJ0_checkIndex_df160_5 : decode cJ0_checkIndex_df160 5 = .ok (.invokestatic 1059, 3) := by decide +kernel
theorem dJ0_checkIndex_df160_8 : decode cJ0_checkIndex_df160 8 = .ok (.pop, 1) := by decide +kernel
theorem dJ0_checkIndex_df160_9 : decode cJ0_checkIndex_df160 9 = .ok (.return_, 1) := by decide +kernel
theorem dJ1_charAt_3b067_0 : decode cJ1_charAt_3b067 0 = .ok (.iload_n 1, 1) := by decide +kernel
theorem dJ1_charAt_3b067_1 : decode cJ1_charAt_3b067 1 = .ok (.aload_n 0, 1) := by decide +kernel
theorem dJ1_charAt_3b067_2 : decode cJ1_charAt_3b067 2 = .ok (.arraylength, 1) := by decide +kernel
theorem dJ1_charAt_3b067_3 : decode cJ1_charAt_3b067 3 = .ok (.invokestatic 9, 3) := by decide +kernel
theorem dJ1_charAt_3b067_6 : decode cJ1_charAt_3b067 6 = .ok (.aload_n 0, 1) := by decide +kernel
theorem dJ1_charAt_3b067_7 : decode cJ1_charAt_3b067 7 = .ok (.iload_n 1, 1) := by decide +kernel
theorem dJ1_charAt_3b067_8 : decode cJ1_charAt_3b067 8 = .ok (.baload, 1) := by decide +kernel
theorem dJ1_charAt_3b067_9 : decode cJ1_charAt_3b067 9 = .ok (.sipush 255, 3) := by decide +kernel
theorem dJ1_charAt_3b067_12 : decode cJ1_charAt_3b067 12 = .ok (.iand, 1) := by decide +kernel
theorem dJ1_charAt_3b067_13 : decode cJ1_charAt_3b067 13 = .ok (.i2c, 1) := by decide +kernel
theorem dJ1_charAt_3b067_14 : decode cJ1_charAt_3b067 14 = .ok (.ireturn, 1) := by decide +kernel
theorem dJ2_getChar_3b067_0 : decode cJ2_getChar_3b067 0 = .ok (.getstatic 44, 3) := by decide +kernel
theorem dJ2_getChar_3b067_3 : decode cJ2_getChar_3b067 3 = .ok (.ifCond .ne 25, 3) := by decide +kernel
theorem dJ2_getChar_3b067_6 : decode cJ2_getChar_3b067 6 = .ok (.iload_n 1, 1) := by decide +kernel
theorem dJ2_getChar_3b067_7 : decode cJ2_getChar_3b067 7 = .ok (.ifCond .lt 11, 3) := by decide +kernel
theorem dJ2_getChar_3b067_10 : decode cJ2_getChar_3b067 10 = .ok (.iload_n 1, 1) := by decide +kernel
theorem dJ2_getChar_3b067_11 : decode cJ2_getChar_3b067 11 = .ok (.aload_n 0, 1) := by decide +kernel
theorem dJ2_getChar_3b067_12 : decode cJ2_getChar_3b067 12 = .ok (.invokestatic 48, 3) := by decide +kernel
theorem dJ2_getChar_3b067_15 : decode cJ2_getChar_3b067 15 = .ok (.if_icmp .lt 13, 3) := by decide +kernel
theorem dJ2_getChar_3b067_18 : decode cJ2_getChar_3b067 18 = .ok (.new 52, 3) := by decide +kernel
theorem dJ2_getChar_3b067_21 : decode cJ2_getChar_3b067 21 = .ok (.dup, 1) := by decide +kernel
theorem dJ2_getChar_3b067_22 : decode cJ2_getChar_3b067 22 = .ok (.ldc 54, 2) := by decide +kernel
theorem dJ2_getChar_3b067_24 : decode cJ2_getChar_3b067 24 = .ok (.invokespecial 56, 3) := by decide +kernel
theorem dJ2_getChar_3b067_27 : decode cJ2_getChar_3b067 27 = .ok (.athrow, 1) := by decide +kernel
theorem dJ2_getChar_3b067_28 : decode cJ2_getChar_3b067 28 = .ok (.iload_n 1, 1) := by decide +kernel
theorem dJ2_getChar_3b067_29 : decode cJ2_getChar_3b067 29 = .ok (.iconst 1, 1) := by decide +kernel
theorem dJ2_getChar_3b067_30 : decode cJ2_getChar_3b067 30 = .ok (.ishl, 1) := by decide +kernel
theorem dJ2_getChar_3b067_31 : decode cJ2_getChar_3b067 31 = .ok (.istore_n 1, 1) := by decide +kernel
theorem dJ2_getChar_3b067_32 : decode cJ2_getChar_3b067 32 = .ok (.aload_n 0, 1) := by decide +kernel
theorem dJ2_getChar_3b067_33 : decode cJ2_getChar_3b067 33 = .ok (.iload_n 1, 1) := by decide +kernel
theorem dJ2_getChar_3b067_34 : decode cJ2_getChar_3b067 34 = .ok (.iinc 1 1, 3) := by decide +kernel
theorem dJ2_getChar_3b067_37 : decode cJ2_getChar_3b067 37 = .ok (.baload, 1) := by decide +kernel
theorem dJ2_getChar_3b067_38 : decode cJ2_getChar_3b067 38 = .ok (.sipush 255, 3) := by decide +kernel
theorem dJ2_getChar_3b067_41 : decode cJ2_getChar_3b067 41 = .ok (.iand, 1) := by decide +kernel
theorem dJ2_getChar_3b067_42 : decode cJ2_getChar_3b067 42 = .ok (.getstatic 59, 3) := by decide +kernel
theorem dJ2_getChar_3b067_45 : decode cJ2_getChar_3b067 45 = .ok (.ishl, 1) := by decide +kernel
theorem dJ2_getChar_3b067_46 : decode cJ2_getChar_3b067 46 = .ok (.aload_n 0, 1) := by decide +kernel
theorem dJ2_getChar_3b067_47 : decode cJ2_getChar_3b067 47 = .ok (.iload_n 1, 1) := by decide +kernel
theorem dJ2_getChar_3b067_48 : decode cJ2_getChar_3b067 48 = .ok (.baload, 1) := by decide +kernel
theorem dJ2_getChar_3b067_49 : decode cJ2_getChar_3b067 49 = .ok (.sipush 255, 3) := by decide +kernel
theorem dJ2_getChar_3b067_52 : decode cJ2_getChar_3b067 52 = .ok (.iand, 1) := by decide +kernel
theorem dJ2_getChar_3b067_53 : decode cJ2_getChar_3b067 53 = .ok (.getstatic 63, 3) := by decide +kernel
theorem dJ2_getChar_3b067_56 : decode cJ2_getChar_3b067 56 = .ok (.ishl, 1) := by decide +kernel
theorem dJ2_getChar_3b067_57 : decode cJ2_getChar_3b067 57 = .ok (.ior, 1) := by decide +kernel
theorem dJ2_getChar_3b067_58 : decode cJ2_getChar_3b067 58 = .ok (.i2c, 1) := by decide +kernel
theorem dJ2_getChar_3b067_59 : decode cJ2_getChar_3b067 59 = .ok (.ireturn, 1) := by decide +kernel
theorem dJ2_length_9d52b_0 : decode cJ2_length_9d52b 0 = .ok (.aload_n 0, 1) := by decide +kernel
theorem dJ2_length_9d52b_1 : decode cJ2_length_9d52b 1 = .ok (.arraylength, 1) := by decide +kernel
theorem dJ2_length_9d52b_2 : decode cJ2_length_9d52b 2 = .ok (.iconst 1, 1) := by decide +kernel
theorem dJ2_length_9d52b_3 : decode cJ2_length_9d52b 3 = .ok (.ishr, 1) := by decide +kernel
theorem dJ2_length_9d52b_4 : decode cJ2_length_9d52b 4 = .ok (.ireturn, 1) := by decide +kernel
theorem dJ2_charAt_3b067_0 : decode cJ2_charAt_3b067 0 = .ok (.iload_n 1, 1) := by decide +kernel
theorem dJ2_charAt_3b067_1 : decode cJ2_charAt_3b067 1 = .ok (.aload_n 0, 1) := by decide +kernel
theorem dJ2_charAt_3b067_2 : decode cJ2_charAt_3b067 2 = .ok (.invokestatic 67, 3) := by decide +kernel
theorem dJ2_charAt_3b067_5 : decode cJ2_charAt_3b067 5 = .ok (.aload_n 0, 1) := by decide +kernel
theorem dJ2_charAt_3b067_6 : decode cJ2_charAt_3b067 6 = .ok (.iload_n 1, 1) := by decide +kernel
theorem dJ2_charAt_3b067_7 : decode cJ2_charAt_3b067 7 = .ok (.invokestatic 71, 3) := by decide +kernel
theorem dJ2_charAt_3b067_10 : decode cJ2_charAt_3b067 10 = .ok (.ireturn, 1) := by decide +kernel
theorem dJ2_checkIndex_2214a_0 : decode cJ2_checkIndex_2214a 0 = .ok (.iload_n 0, 1) := by decide +kernel
theorem dJ2_checkIndex_2214a_1 : decode cJ2_checkIndex_2214a 1 = .ok (.aload_n 1, 1) := by decide +kernel
theorem dJ2_checkIndex_2214a_2 : decode cJ2_checkIndex_2214a 2 = .ok (.invokestatic 48, 3) := by decide +kernel
theorem dJ2_checkIndex_2214a_5 : decode cJ2_checkIndex_2214a 5 = .ok (.invokestatic 414, 3) := by decide +kernel
theorem dJ2_checkIndex_2214a_8 : decode cJ2_checkIndex_2214a 8 = .ok (.return_, 1) := by decide +kernel
theorem dJ3_checkIndex_8e157_0 : decode cJ3_checkIndex_8e157 0 = .ok (.iload_n 0, 1) := by decide +kernel
theorem dJ3_checkIndex_8e157_1 : decode cJ3_checkIndex_8e157 1 = .ok (.ifCond .lt 8, 3) := by decide +kernel
theorem dJ3_checkIndex_8e157_4 : decode cJ3_checkIndex_8e157 4 = .ok (.iload_n 0, 1) := by decide +kernel
theorem dJ3_checkIndex_8e157_5 : decode cJ3_checkIndex_8e157 5 = .ok (.iload_n 1, 1) := by decide +kernel
theorem dJ3_checkIndex_8e157_6 : decode cJ3_checkIndex_8e157 6 = .ok (.if_icmp .lt 10, 3) := by decide +kernel
theorem dJ3_checkIndex_8e157_9 : decode cJ3_checkIndex_8e157 9 = .ok (.aload_n 2, 1) := by decide +kernel
theorem dJ3_checkIndex_8e157_10 : decode cJ3_checkIndex_8e157 10 = .ok (.iload_n 0, 1) := by decide +kernel
theorem dJ3_checkIndex_8e157_11 : decode cJ3_checkIndex_8e157 11 = .ok (.iload_n 1, 1) := by decide +kernel
theorem dJ3_checkIndex_8e157_12 : decode cJ3_checkIndex_8e157 12 = .ok (.invokestatic 95, 3) := by decide +kernel
theorem dJ3_checkIndex_8e157_15 : decode cJ3_checkIndex_8e157 15 = .ok (.athrow, 1) := by decide +kernel
theorem dJ3_checkIndex_8e157_16 : decode cJ3_checkIndex_8e157 16 = .ok (.iload_n 0, 1) := by decide +kernel
theorem dJ3_checkIndex_8e157_17 : decode cJ3_checkIndex_8e157 17 = .ok (.ireturn, 1) := by decide +kernel
theorem dL_law_0 : decode cL_law 0 = .ok (.new 7, 3) := by decide +kernel
theorem dL_law_3 : decode cL_law 3 = .ok (.dup, 1) := by decide +kernel
theorem dL_law_4 : decode cL_law 4 = .ok (.invokespecial 9, 3) := by decide +kernel
theorem dL_law_7 : decode cL_law 7 = .ok (.astore_n 1, 1) := by decide +kernel
theorem dL_law_8 : decode cL_law 8 = .ok (.new 10, 3) := by decide +kernel
theorem dL_law_11 : decode cL_law 11 = .ok (.dup, 1) := by decide +kernel
theorem dL_law_12 : decode cL_law 12 = .ok (.invokespecial 12, 3) := by decide +kernel
theorem dL_law_15 : decode cL_law 15 = .ok (.astore_n 2, 1) := by decide +kernel
theorem dL_law_16 : decode cL_law 16 = .ok (.iconst 0, 1) := by decide +kernel
theorem dL_law_17 : decode cL_law 17 = .ok (.istore_n 3, 1) := by decide +kernel
theorem dL_law_18 : decode cL_law 18 = .ok (.iload_n 3, 1) := by decide +kernel
theorem dL_law_19 : decode cL_law 19 = .ok (.aload_n 0, 1) := by decide +kernel
theorem dL_law_20 : decode cL_law 20 = .ok (.arraylength, 1) := by decide +kernel
theorem dL_law_21 : decode cL_law 21 = .ok (.iconst 5, 1) := by decide +kernel
theorem dL_law_22 : decode cL_law 22 = .ok (.isub, 1) := by decide +kernel
theorem dL_law_23 : decode cL_law 23 = .ok (.if_icmp .gt 1035, 3) := by decide +kernel
theorem dL_law_26 : decode cL_law 26 = .ok (.aload_n 0, 1) := by decide +kernel
theorem dL_law_27 : decode cL_law 27 = .ok (.iload_n 3, 1) := by decide +kernel
theorem dL_law_28 : decode cL_law 28 = .ok (.iaload, 1) := by decide +kernel
theorem dL_law_29 : decode cL_law 29 = .ok (.bipush 31, 2) := by decide +kernel
theorem dL_law_31 : decode cL_law 31 = .ok (.iand, 1) := by decide +kernel
theorem dL_law_32 : decode cL_law 32 = .ok (.tableswitch 1020 0 31 #[144, 207, 220, 243, 286, 329, 362, 385, 408, 441, 464, 497, 520, 533, 556, 579, 612, 635, 668, 701, 724, 767, 800, 813, 836, 849, 872, 925, 948, 971, 984, 997], 144) := by decide +kernel
theorem dL_law_176 : decode cL_law 176 = .ok (.aload_n 1, 1) := by decide +kernel
theorem dL_law_177 : decode cL_law 177 = .ok (.aload_n 0, 1) := by decide +kernel
theorem dL_law_178 : decode cL_law 178 = .ok (.iload_n 3, 1) := by decide +kernel
theorem dL_law_179 : decode cL_law 179 = .ok (.iconst 1, 1) := by decide +kernel
theorem dL_law_180 : decode cL_law 180 = .ok (.iadd, 1) := by decide +kernel
theorem dL_law_181 : decode cL_law 181 = .ok (.iaload, 1) := by decide +kernel
theorem dL_law_182 : decode cL_law 182 = .ok (.aload_n 0, 1) := by decide +kernel
theorem dL_law_183 : decode cL_law 183 = .ok (.iload_n 3, 1) := by decide +kernel
theorem dL_law_184 : decode cL_law 184 = .ok (.iconst 2, 1) := by decide +kernel
theorem dL_law_185 : decode cL_law 185 = .ok (.iadd, 1) := by decide +kernel
theorem dL_law_186 : decode cL_law 186 = .ok (.iaload, 1) := by decide +kernel
theorem dL_law_187 : decode cL_law 187 = .ok (.i2l, 1) := by decide +kernel
theorem dL_law_188 : decode cL_law 188 = .ok (.bipush 32, 2) := by decide +kernel
theorem dL_law_190 : decode cL_law 190 = .ok (.lshl, 1) := by decide +kernel
theorem dL_law_191 : decode cL_law 191 = .ok (.aload_n 0, 1) := by decide +kernel
theorem dL_law_192 : decode cL_law 192 = .ok (.iload_n 3, 1) := by decide +kernel
theorem dL_law_193 : decode cL_law 193 = .ok (.iconst 3, 1) := by decide +kernel
theorem dL_law_194 : decode cL_law 194 = .ok (.iadd, 1) := by decide +kernel
theorem dL_law_195 : decode cL_law 195 = .ok (.iaload, 1) := by decide +kernel
theorem dL_law_196 : decode cL_law 196 = .ok (.i2l, 1) := by decide +kernel
theorem dL_law_197 : decode cL_law 197 = .ok (.ldc2_w 13, 3) := by decide +kernel
theorem dL_law_200 : decode cL_law 200 = .ok (.land, 1) := by decide +kernel
theorem dL_law_201 : decode cL_law 201 = .ok (.lor, 1) := by decide +kernel
theorem dL_law_202 : decode cL_law 202 = .ok (.invokevirtual 15, 3) := by decide +kernel
theorem dL_law_205 : decode cL_law 205 = .ok (.aload_n 2, 1) := by decide +kernel
theorem dL_law_206 : decode cL_law 206 = .ok (.aload_n 0, 1) := by decide +kernel
theorem dL_law_207 : decode cL_law 207 = .ok (.iload_n 3, 1) := by decide +kernel
theorem dL_law_208 : decode cL_law 208 = .ok (.iconst 1, 1) := by decide +kernel
theorem dL_law_209 : decode cL_law 209 = .ok (.iadd, 1) := by decide +kernel
theorem dL_law_210 : decode cL_law 210 = .ok (.iaload, 1) := by decide +kernel
theorem dL_law_211 : decode cL_law 211 = .ok (.aload_n 0, 1) := by decide +kernel
theorem dL_law_212 : decode cL_law 212 = .ok (.iload_n 3, 1) := by decide +kernel
theorem dL_law_213 : decode cL_law 213 = .ok (.iconst 2, 1) := by decide +kernel
theorem dL_law_214 : decode cL_law 214 = .ok (.iadd, 1) := by decide +kernel
theorem dL_law_215 : decode cL_law 215 = .ok (.iaload, 1) := by decide +kernel
theorem dL_law_216 : decode cL_law 216 = .ok (.i2l, 1) := by decide +kernel
theorem dL_law_217 : decode cL_law 217 = .ok (.bipush 32, 2) := by decide +kernel
theorem dL_law_219 : decode cL_law 219 = .ok (.lshl, 1) := by decide +kernel
theorem dL_law_220 : decode cL_law 220 = .ok (.aload_n 0, 1) := by decide +kernel
theorem dL_law_221 : decode cL_law 221 = .ok (.iload_n 3, 1) := by decide +kernel
theorem dL_law_222 : decode cL_law 222 = .ok (.iconst 3, 1) := by decide +kernel
theorem dL_law_223 : decode cL_law 223 = .ok (.iadd, 1) := by decide +kernel
theorem dL_law_224 : decode cL_law 224 = .ok (.iaload, 1) := by decide +kernel
theorem dL_law_225 : decode cL_law 225 = .ok (.i2l, 1) := by decide +kernel
theorem dL_law_226 : decode cL_law 226 = .ok (.ldc2_w 13, 3) := by decide +kernel
theorem dL_law_229 : decode cL_law 229 = .ok (.land, 1) := by decide +kernel
theorem dL_law_230 : decode cL_law 230 = .ok (.lor, 1) := by decide +kernel
theorem dL_law_231 : decode cL_law 231 = .ok (.invokevirtual 19, 3) := by decide +kernel
theorem dL_law_234 : decode cL_law 234 = .ok (.if_icmp .eq 818, 3) := by decide +kernel
theorem dL_law_237 : decode cL_law 237 = .ok (.iconst 0, 1) := by decide +kernel
theorem dL_law_238 : decode cL_law 238 = .ok (.ireturn, 1) := by decide +kernel
theorem dL_law_239 : decode cL_law 239 = .ok (.aload_n 1, 1) := by decide +kernel
theorem dL_law_240 : decode cL_law 240 = .ok (.invokevirtual 20, 3) := by decide +kernel
theorem dL_law_243 : decode cL_law 243 = .ok (.aload_n 2, 1) := by decide +kernel
theorem dL_law_244 : decode cL_law 244 = .ok (.invokevirtual 24, 3) := by decide +kernel
theorem dL_law_247 : decode cL_law 247 = .ok (.if_icmp .eq 805, 3) := by decide +kernel
theorem dL_law_250 : decode cL_law 250 = .ok (.iconst 0, 1) := by decide +kernel
theorem dL_law_251 : decode cL_law 251 = .ok (.ireturn, 1) := by decide +kernel
theorem dL_law_252 : decode cL_law 252 = .ok (.aload_n 1, 1) := by decide +kernel
theorem dL_law_253 : decode cL_law 253 = .ok (.aload_n 0, 1) := by decide +kernel
theorem dL_law_254 : decode cL_law 254 = .ok (.iload_n 3, 1) := by decide +kernel
theorem dL_law_255 : decode cL_law 255 = .ok (.iconst 1, 1) := by decide +kernel
theorem dL_law_256 : decode cL_law 256 = .ok (.iadd, 1) := by decide +kernel
theorem dL_law_257 : decode cL_law 257 = .ok (.iaload, 1) := by decide +kernel
theorem dL_law_258 : decode cL_law 258 = .ok (.invokevirtual 25, 3) := by decide +kernel
theorem dL_law_261 : decode cL_law 261 = .ok (.aload_n 2, 1) := by decide +kernel
theorem dL_law_262 : decode cL_law 262 = .ok (.aload_n 0, 1) := by decide +kernel
theorem dL_law_263 : decode cL_law 263 = .ok (.iload_n 3, 1) := by decide +kernel
theorem dL_law_264 : decode cL_law 264 = .ok (.iconst 1, 1) := by decide +kernel
theorem dL_law_265 : decode cL_law 265 = .ok (.iadd, 1) := by decide +kernel
theorem dL_law_266 : decode cL_law 266 = .ok (.iaload, 1) := by decide +kernel
theorem dL_law_267 : decode cL_law 267 = .ok (.invokevirtual 29, 3) := by decide +kernel
theorem dL_law_270 : decode cL_law 270 = .ok (.if_icmp .eq 782, 3) := by decide +kernel
theorem dL_law_273 : decode cL_law 273 = .ok (.iconst 0, 1) := by decide +kernel
theorem dL_law_274 : decode cL_law 274 = .ok (.ireturn, 1) := by decide +kernel
theorem dL_law_275 : decode cL_law 275 = .ok (.aload_n 1, 1) := by decide +kernel
theorem dL_law_276 : decode cL_law 276 = .ok (.aload_n 0, 1) := by decide +kernel
theorem dL_law_277 : decode cL_law 277 = .ok (.iload_n 3, 1) := by decide +kernel
theorem dL_law_278 : decode cL_law 278 = .ok (.iconst 1, 1) := by decide +kernel
theorem dL_law_279 : decode cL_law 279 = .ok (.iadd, 1) := by decide +kernel
theorem dL_law_280 : decode cL_law 280 = .ok (.iaload, 1) := by decide +kernel
theorem dL_law_281 : decode cL_law 281 = .ok (.aload_n 0, 1) := by decide +kernel
theorem dL_law_282 : decode cL_law 282 = .ok (.iload_n 3, 1) := by decide +kernel
theorem dL_law_283 : decode cL_law 283 = .ok (.iconst 2, 1) := by decide +kernel
theorem dL_law_284 : decode cL_law 284 = .ok (.iadd, 1) := by decide +kernel
theorem dL_law_285 : decode cL_law 285 = .ok (.iaload, 1) := by decide +kernel
theorem dL_law_286 : decode cL_law 286 = .ok (.aload_n 0, 1) := by decide +kernel
theorem dL_law_287 : decode cL_law 287 = .ok (.iload_n 3, 1) := by decide +kernel
theorem dL_law_288 : decode cL_law 288 = .ok (.iconst 3, 1) := by decide +kernel
theorem dL_law_289 : decode cL_law 289 = .ok (.iadd, 1) := by decide +kernel
theorem dL_law_290 : decode cL_law 290 = .ok (.iaload, 1) := by decide +kernel
theorem dL_law_291 : decode cL_law 291 = .ok (.invokevirtual 30, 3) := by decide +kernel
theorem dL_law_294 : decode cL_law 294 = .ok (.aload_n 2, 1) := by decide +kernel
theorem dL_law_295 : decode cL_law 295 = .ok (.aload_n 0, 1) := by decide +kernel
theorem dL_law_296 : decode cL_law 296 = .ok (.iload_n 3, 1) := by decide +kernel
theorem dL_law_297 : decode cL_law 297 = .ok (.iconst 1, 1) := by decide +kernel
theorem dL_law_298 : decode cL_law 298 = .ok (.iadd, 1) := by decide +kernel
theorem dL_law_299 : decode cL_law 299 = .ok (.iaload, 1) := by decide +kernel
theorem dL_law_300 : decode cL_law 300 = .ok (.aload_n 0, 1) := by decide +kernel
theorem dL_law_301 : decode cL_law 301 = .ok (.iload_n 3, 1) := by decide +kernel
theorem dL_law_302 : decode cL_law 302 = .ok (.iconst 2, 1) := by decide +kernel
theorem dL_law_303 : decode cL_law 303 = .ok (.iadd, 1) := by decide +kernel
theorem dL_law_304 : decode cL_law 304 = .ok (.iaload, 1) := by decide +kernel
theorem dL_law_305 : decode cL_law 305 = .ok (.aload_n 0, 1) := by decide +kernel
theorem dL_law_306 : decode cL_law 306 = .ok (.iload_n 3, 1) := by decide +kernel
theorem dL_law_307 : decode cL_law 307 = .ok (.iconst 3, 1) := by decide +kernel
theorem dL_law_308 : decode cL_law 308 = .ok (.iadd, 1) := by decide +kernel
theorem dL_law_309 : decode cL_law 309 = .ok (.iaload, 1) := by decide +kernel
theorem dL_law_310 : decode cL_law 310 = .ok (.invokevirtual 34, 3) := by decide +kernel
theorem dL_law_313 : decode cL_law 313 = .ok (.if_icmp .eq 739, 3) := by decide +kernel
theorem dL_law_316 : decode cL_law 316 = .ok (.iconst 0, 1) := by decide +kernel
theorem dL_law_317 : decode cL_law 317 = .ok (.ireturn, 1) := by decide +kernel
theorem dL_law_318 : decode cL_law 318 = .ok (.aload_n 1, 1) := by decide +kernel
theorem dL_law_319 : decode cL_law 319 = .ok (.aload_n 0, 1) := by decide +kernel
theorem dL_law_320 : decode cL_law 320 = .ok (.iload_n 3, 1) := by decide +kernel
theorem dL_law_321 : decode cL_law 321 = .ok (.iconst 1, 1) := by decide +kernel
theorem dL_law_322 : decode cL_law 322 = .ok (.iadd, 1) := by decide +kernel
theorem dL_law_323 : decode cL_law 323 = .ok (.iaload, 1) := by decide +kernel
theorem dL_law_324 : decode cL_law 324 = .ok (.aload_n 0, 1) := by decide +kernel
theorem dL_law_325 : decode cL_law 325 = .ok (.iload_n 3, 1) := by decide +kernel
theorem dL_law_326 : decode cL_law 326 = .ok (.iconst 2, 1) := by decide +kernel
theorem dL_law_327 : decode cL_law 327 = .ok (.iadd, 1) := by decide +kernel
theorem dL_law_328 : decode cL_law 328 = .ok (.iaload, 1) := by decide +kernel
theorem dL_law_329 : decode cL_law 329 = .ok (.aload_n 0, 1) := by decide +kernel
theorem dL_law_330 : decode cL_law 330 = .ok (.iload_n 3, 1) := by decide +kernel
theorem dL_law_331 : decode cL_law 331 = .ok (.iconst 3, 1) := by decide +kernel
theorem dL_law_332 : decode cL_law 332 = .ok (.iadd, 1) := by decide +kernel
theorem dL_law_333 : decode cL_law 333 = .ok (.iaload, 1) := by decide +kernel
theorem dL_law_334 : decode cL_law 334 = .ok (.invokevirtual 35, 3) := by decide +kernel
theorem dL_law_337 : decode cL_law 337 = .ok (.aload_n 2, 1) := by decide +kernel
theorem dL_law_338 : decode cL_law 338 = .ok (.aload_n 0, 1) := by decide +kernel
theorem dL_law_339 : decode cL_law 339 = .ok (.iload_n 3, 1) := by decide +kernel
theorem dL_law_340 : decode cL_law 340 = .ok (.iconst 1, 1) := by decide +kernel
theorem dL_law_341 : decode cL_law 341 = .ok (.iadd, 1) := by decide +kernel
theorem dL_law_342 : decode cL_law 342 = .ok (.iaload, 1) := by decide +kernel
theorem dL_law_343 : decode cL_law 343 = .ok (.aload_n 0, 1) := by decide +kernel
theorem dL_law_344 : decode cL_law 344 = .ok (.iload_n 3, 1) := by decide +kernel
theorem dL_law_345 : decode cL_law 345 = .ok (.iconst 2, 1) := by decide +kernel
theorem dL_law_346 : decode cL_law 346 = .ok (.iadd, 1) := by decide +kernel
theorem dL_law_347 : decode cL_law 347 = .ok (.iaload, 1) := by decide +kernel
theorem dL_law_348 : decode cL_law 348 = .ok (.aload_n 0, 1) := by decide +kernel
theorem dL_law_349 : decode cL_law 349 = .ok (.iload_n 3, 1) := by decide +kernel
theorem dL_law_350 : decode cL_law 350 = .ok (.iconst 3, 1) := by decide +kernel
theorem dL_law_351 : decode cL_law 351 = .ok (.iadd, 1) := by decide +kernel
theorem dL_law_352 : decode cL_law 352 = .ok (.iaload, 1) := by decide +kernel
theorem dL_law_353 : decode cL_law 353 = .ok (.invokevirtual 38, 3) := by decide +kernel
theorem dL_law_356 : decode cL_law 356 = .ok (.if_icmp .eq 696, 3) := by decide +kernel
theorem dL_law_359 : decode cL_law 359 = .ok (.iconst 0, 1) := by decide +kernel
theorem dL_law_360 : decode cL_law 360 = .ok (.ireturn, 1) := by decide +kernel
theorem dL_law_361 : decode cL_law 361 = .ok (.aload_n 1, 1) := by decide +kernel
theorem dL_law_362 : decode cL_law 362 = .ok (.aload_n 0, 1) := by decide +kernel
theorem dL_law_363 : decode cL_law 363 = .ok (.iload_n 3, 1) := by decide +kernel
theorem dL_law_364 : decode cL_law 364 = .ok (.iconst 1, 1) := by decide +kernel
theorem dL_law_365 : decode cL_law 365 = .ok (.iadd, 1) := by decide +kernel
theorem dL_law_366 : decode cL_law 366 = .ok (.iaload, 1) := by decide +kernel
theorem dL_law_367 : decode cL_law 367 = .ok (.aload_n 0, 1) := by decide +kernel
theorem dL_law_368 : decode cL_law 368 = .ok (.iload_n 3, 1) := by decide +kernel
theorem dL_law_369 : decode cL_law 369 = .ok (.iconst 2, 1) := by decide +kernel
theorem dL_law_370 : decode cL_law 370 = .ok (.iadd, 1) := by decide +kernel
theorem dL_law_371 : decode cL_law 371 = .ok (.iaload, 1) := by decide +kernel
theorem dL_law_372 : decode cL_law 372 = .ok (.invokevirtual 39, 3) := by decide +kernel
theorem dL_law_375 : decode cL_law 375 = .ok (.aload_n 2, 1) := by decide +kernel
theorem dL_law_376 : decode cL_law 376 = .ok (.aload_n 0, 1) := by decide +kernel
theorem dL_law_377 : decode cL_law 377 = .ok (.iload_n 3, 1) := by decide +kernel
theorem dL_law_378 : decode cL_law 378 = .ok (.iconst 1, 1) := by decide +kernel
theorem dL_law_379 : decode cL_law 379 = .ok (.iadd, 1) := by decide +kernel
theorem dL_law_380 : decode cL_law 380 = .ok (.iaload, 1) := by decide +kernel
theorem dL_law_381 : decode cL_law 381 = .ok (.aload_n 0, 1) := by decide +kernel
theorem dL_law_382 : decode cL_law 382 = .ok (.iload_n 3, 1) := by decide +kernel
theorem dL_law_383 : decode cL_law 383 = .ok (.iconst 2, 1) := by decide +kernel
theorem dL_law_384 : decode cL_law 384 = .ok (.iadd, 1) := by decide +kernel
theorem dL_law_385 : decode cL_law 385 = .ok (.iaload, 1) := by decide +kernel
theorem dL_law_386 : decode cL_law 386 = .ok (.invokevirtual 43, 3) := by decide +kernel
theorem dL_law_389 : decode cL_law 389 = .ok (.if_icmp .eq 663, 3) := by decide +kernel
theorem dL_law_392 : decode cL_law 392 = .ok (.iconst 0, 1) := by decide +kernel
theorem dL_law_393 : decode cL_law 393 = .ok (.ireturn, 1) := by decide +kernel
theorem dL_law_394 : decode cL_law 394 = .ok (.aload_n 1, 1) := by decide +kernel
theorem dL_law_395 : decode cL_law 395 = .ok (.aload_n 0, 1) := by decide +kernel
theorem dL_law_396 : decode cL_law 396 = .ok (.iload_n 3, 1) := by decide +kernel
theorem dL_law_397 : decode cL_law 397 = .ok (.iconst 1, 1) := by decide +kernel
theorem dL_law_398 : decode cL_law 398 = .ok (.iadd, 1) := by decide +kernel
theorem dL_law_399 : decode cL_law 399 = .ok (.iaload, 1) := by decide +kernel
theorem dL_law_400 : decode cL_law 400 = .ok (.invokevirtual 44, 3) := by decide +kernel
theorem dL_law_403 : decode cL_law 403 = .ok (.aload_n 2, 1) := by decide +kernel
theorem dL_law_404 : decode cL_law 404 = .ok (.aload_n 0, 1) := by decide +kernel
theorem dL_law_405 : decode cL_law 405 = .ok (.iload_n 3, 1) := by decide +kernel
theorem dL_law_406 : decode cL_law 406 = .ok (.iconst 1, 1) := by decide +kernel
theorem dL_law_407 : decode cL_law 407 = .ok (.iadd, 1) := by decide +kernel
theorem dL_law_408 : decode cL_law 408 = .ok (.iaload, 1) := by decide +kernel
theorem dL_law_409 : decode cL_law 409 = .ok (.invokevirtual 47, 3) := by decide +kernel
theorem dL_law_412 : decode cL_law 412 = .ok (.if_icmp .eq 640, 3) := by decide +kernel
theorem dL_law_415 : decode cL_law 415 = .ok (.iconst 0, 1) := by decide +kernel
theorem dL_law_416 : decode cL_law 416 = .ok (.ireturn, 1) := by decide +kernel
theorem dL_law_417 : decode cL_law 417 = .ok (.aload_n 1, 1) := by decide +kernel
theorem dL_law_418 : decode cL_law 418 = .ok (.aload_n 0, 1) := by decide +kernel
theorem dL_law_419 : decode cL_law 419 = .ok (.iload_n 3, 1) := by decide +kernel
theorem dL_law_420 : decode cL_law 420 = .ok (.iconst 1, 1) := by decide +kernel
theorem dL_law_421 : decode cL_law 421 = .ok (.iadd, 1) := by decide +kernel
theorem dL_law_422 : decode cL_law 422 = .ok (.iaload, 1) := by decide +kernel
theorem dL_law_423 : decode cL_law 423 = .ok (.invokevirtual 48, 3) := by decide +kernel
theorem dL_law_426 : decode cL_law 426 = .ok (.aload_n 2, 1) := by decide +kernel
theorem dL_law_427 : decode cL_law 427 = .ok (.aload_n 0, 1) := by decide +kernel
theorem dL_law_428 : decode cL_law 428 = .ok (.iload_n 3, 1) := by decide +kernel
theorem dL_law_429 : decode cL_law 429 = .ok (.iconst 1, 1) := by decide +kernel
theorem dL_law_430 : decode cL_law 430 = .ok (.iadd, 1) := by decide +kernel
theorem dL_law_431 : decode cL_law 431 = .ok (.iaload, 1) := by decide +kernel
theorem dL_law_432 : decode cL_law 432 = .ok (.invokevirtual 51, 3) := by decide +kernel
theorem dL_law_435 : decode cL_law 435 = .ok (.if_icmp .eq 617, 3) := by decide +kernel
theorem dL_law_438 : decode cL_law 438 = .ok (.iconst 0, 1) := by decide +kernel
theorem dL_law_439 : decode cL_law 439 = .ok (.ireturn, 1) := by decide +kernel
theorem dL_law_440 : decode cL_law 440 = .ok (.aload_n 1, 1) := by decide +kernel
theorem dL_law_441 : decode cL_law 441 = .ok (.aload_n 0, 1) := by decide +kernel
theorem dL_law_442 : decode cL_law 442 = .ok (.iload_n 3, 1) := by decide +kernel
theorem dL_law_443 : decode cL_law 443 = .ok (.iconst 1, 1) := by decide +kernel
theorem dL_law_444 : decode cL_law 444 = .ok (.iadd, 1) := by decide +kernel
theorem dL_law_445 : decode cL_law 445 = .ok (.iaload, 1) := by decide +kernel
theorem dL_law_446 : decode cL_law 446 = .ok (.aload_n 0, 1) := by decide +kernel
theorem dL_law_447 : decode cL_law 447 = .ok (.iload_n 3, 1) := by decide +kernel
theorem dL_law_448 : decode cL_law 448 = .ok (.iconst 2, 1) := by decide +kernel
theorem dL_law_449 : decode cL_law 449 = .ok (.iadd, 1) := by decide +kernel
theorem dL_law_450 : decode cL_law 450 = .ok (.iaload, 1) := by decide +kernel
theorem dL_law_451 : decode cL_law 451 = .ok (.invokevirtual 52, 3) := by decide +kernel
theorem dL_law_454 : decode cL_law 454 = .ok (.aload_n 2, 1) := by decide +kernel
theorem dL_law_455 : decode cL_law 455 = .ok (.aload_n 0, 1) := by decide +kernel
theorem dL_law_456 : decode cL_law 456 = .ok (.iload_n 3, 1) := by decide +kernel
theorem dL_law_457 : decode cL_law 457 = .ok (.iconst 1, 1) := by decide +kernel
theorem dL_law_458 : decode cL_law 458 = .ok (.iadd, 1) := by decide +kernel
theorem dL_law_459 : decode cL_law 459 = .ok (.iaload, 1) := by decide +kernel
theorem dL_law_460 : decode cL_law 460 = .ok (.aload_n 0, 1) := by decide +kernel
theorem dL_law_461 : decode cL_law 461 = .ok (.iload_n 3, 1) := by decide +kernel
theorem dL_law_462 : decode cL_law 462 = .ok (.iconst 2, 1) := by decide +kernel
theorem dL_law_463 : decode cL_law 463 = .ok (.iadd, 1) := by decide +kernel
theorem dL_law_464 : decode cL_law 464 = .ok (.iaload, 1) := by decide +kernel
theorem dL_law_465 : decode cL_law 465 = .ok (.invokevirtual 55, 3) := by decide +kernel
theorem dL_law_468 : decode cL_law 468 = .ok (.if_icmp .eq 584, 3) := by decide +kernel
theorem dL_law_471 : decode cL_law 471 = .ok (.iconst 0, 1) := by decide +kernel
theorem dL_law_472 : decode cL_law 472 = .ok (.ireturn, 1) := by decide +kernel
theorem dL_law_473 : decode cL_law 473 = .ok (.aload_n 1, 1) := by decide +kernel
theorem dL_law_474 : decode cL_law 474 = .ok (.aload_n 0, 1) := by decide +kernel
theorem dL_law_475 : decode cL_law 475 = .ok (.iload_n 3, 1) := by decide +kernel
theorem dL_law_476 : decode cL_law 476 = .ok (.iconst 1, 1) := by decide +kernel
theorem dL_law_477 : decode cL_law 477 = .ok (.iadd, 1) := by decide +kernel
theorem dL_law_478 : decode cL_law 478 = .ok (.iaload, 1) := by decide +kernel
theorem dL_law_479 : decode cL_law 479 = .ok (.invokevirtual 56, 3) := by decide +kernel
theorem dL_law_482 : decode cL_law 482 = .ok (.aload_n 2, 1) := by decide +kernel
theorem dL_law_483 : decode cL_law 483 = .ok (.aload_n 0, 1) := by decide +kernel
theorem dL_law_484 : decode cL_law 484 = .ok (.iload_n 3, 1) := by decide +kernel
theorem dL_law_485 : decode cL_law 485 = .ok (.iconst 1, 1) := by decide +kernel
theorem dL_law_486 : decode cL_law 486 = .ok (.iadd, 1) := by decide +kernel
theorem dL_law_487 : decode cL_law 487 = .ok (.iaload, 1) := by decide +kernel
theorem dL_law_488 : decode cL_law 488 = .ok (.invokevirtual 59, 3) := by decide +kernel
theorem dL_law_491 : decode cL_law 491 = .ok (.if_icmp .eq 561, 3) := by decide +kernel
theorem dL_law_494 : decode cL_law 494 = .ok (.iconst 0, 1) := by decide +kernel
theorem dL_law_495 : decode cL_law 495 = .ok (.ireturn, 1) := by decide +kernel
theorem dL_law_496 : decode cL_law 496 = .ok (.aload_n 1, 1) := by decide +kernel
theorem dL_law_497 : decode cL_law 497 = .ok (.aload_n 0, 1) := by decide +kernel
theorem dL_law_498 : decode cL_law 498 = .ok (.iload_n 3, 1) := by decide +kernel
theorem dL_law_499 : decode cL_law 499 = .ok (.iconst 1, 1) := by decide +kernel
theorem dL_law_500 : decode cL_law 500 = .ok (.iadd, 1) := by decide +kernel
theorem dL_law_501 : decode cL_law 501 = .ok (.iaload, 1) := by decide +kernel
theorem dL_law_502 : decode cL_law 502 = .ok (.aload_n 0, 1) := by decide +kernel
theorem dL_law_503 : decode cL_law 503 = .ok (.iload_n 3, 1) := by decide +kernel
theorem dL_law_504 : decode cL_law 504 = .ok (.iconst 2, 1) := by decide +kernel
theorem dL_law_505 : decode cL_law 505 = .ok (.iadd, 1) := by decide +kernel
theorem dL_law_506 : decode cL_law 506 = .ok (.iaload, 1) := by decide +kernel
theorem dL_law_507 : decode cL_law 507 = .ok (.invokevirtual 60, 3) := by decide +kernel
theorem dL_law_510 : decode cL_law 510 = .ok (.aload_n 2, 1) := by decide +kernel
theorem dL_law_511 : decode cL_law 511 = .ok (.aload_n 0, 1) := by decide +kernel
theorem dL_law_512 : decode cL_law 512 = .ok (.iload_n 3, 1) := by decide +kernel
theorem dL_law_513 : decode cL_law 513 = .ok (.iconst 1, 1) := by decide +kernel
theorem dL_law_514 : decode cL_law 514 = .ok (.iadd, 1) := by decide +kernel
theorem dL_law_515 : decode cL_law 515 = .ok (.iaload, 1) := by decide +kernel
theorem dL_law_516 : decode cL_law 516 = .ok (.aload_n 0, 1) := by decide +kernel
theorem dL_law_517 : decode cL_law 517 = .ok (.iload_n 3, 1) := by decide +kernel
theorem dL_law_518 : decode cL_law 518 = .ok (.iconst 2, 1) := by decide +kernel
theorem dL_law_519 : decode cL_law 519 = .ok (.iadd, 1) := by decide +kernel
theorem dL_law_520 : decode cL_law 520 = .ok (.iaload, 1) := by decide +kernel
theorem dL_law_521 : decode cL_law 521 = .ok (.invokevirtual 63, 3) := by decide +kernel
theorem dL_law_524 : decode cL_law 524 = .ok (.if_icmp .eq 528, 3) := by decide +kernel
theorem dL_law_527 : decode cL_law 527 = .ok (.iconst 0, 1) := by decide +kernel
theorem dL_law_528 : decode cL_law 528 = .ok (.ireturn, 1) := by decide +kernel
theorem dL_law_529 : decode cL_law 529 = .ok (.aload_n 1, 1) := by decide +kernel
theorem dL_law_530 : decode cL_law 530 = .ok (.aload_n 0, 1) := by decide +kernel
theorem dL_law_531 : decode cL_law 531 = .ok (.iload_n 3, 1) := by decide +kernel
theorem dL_law_532 : decode cL_law 532 = .ok (.iconst 1, 1) := by decide +kernel
theorem dL_law_533 : decode cL_law 533 = .ok (.iadd, 1) := by decide +kernel
theorem dL_law_534 : decode cL_law 534 = .ok (.iaload, 1) := by decide +kernel
theorem dL_law_535 : decode cL_law 535 = .ok (.invokevirtual 64, 3) := by decide +kernel
theorem dL_law_538 : decode cL_law 538 = .ok (.aload_n 2, 1) := by decide +kernel
theorem dL_law_539 : decode cL_law 539 = .ok (.aload_n 0, 1) := by decide +kernel
theorem dL_law_540 : decode cL_law 540 = .ok (.iload_n 3, 1) := by decide +kernel
theorem dL_law_541 : decode cL_law 541 = .ok (.iconst 1, 1) := by decide +kernel
theorem dL_law_542 : decode cL_law 542 = .ok (.iadd, 1) := by decide +kernel
theorem dL_law_543 : decode cL_law 543 = .ok (.iaload, 1) := by decide +kernel
theorem dL_law_544 : decode cL_law 544 = .ok (.invokevirtual 67, 3) := by decide +kernel
theorem dL_law_547 : decode cL_law 547 = .ok (.if_icmp .eq 505, 3) := by decide +kernel
theorem dL_law_550 : decode cL_law 550 = .ok (.iconst 0, 1) := by decide +kernel
theorem dL_law_551 : decode cL_law 551 = .ok (.ireturn, 1) := by decide +kernel
theorem dL_law_552 : decode cL_law 552 = .ok (.aload_n 1, 1) := by decide +kernel
theorem dL_law_553 : decode cL_law 553 = .ok (.invokevirtual 68, 3) := by decide +kernel
theorem dL_law_556 : decode cL_law 556 = .ok (.aload_n 2, 1) := by decide +kernel
theorem dL_law_557 : decode cL_law 557 = .ok (.invokevirtual 71, 3) := by decide +kernel
theorem dL_law_560 : decode cL_law 560 = .ok (.if_icmp .eq 492, 3) := by decide +kernel
theorem dL_law_563 : decode cL_law 563 = .ok (.iconst 0, 1) := by decide +kernel
theorem dL_law_564 : decode cL_law 564 = .ok (.ireturn, 1) := by decide +kernel
theorem dL_law_565 : decode cL_law 565 = .ok (.aload_n 1, 1) := by decide +kernel
theorem dL_law_566 : decode cL_law 566 = .ok (.aload_n 0, 1) := by decide +kernel
theorem dL_law_567 : decode cL_law 567 = .ok (.iload_n 3, 1) := by decide +kernel
theorem dL_law_568 : decode cL_law 568 = .ok (.iconst 1, 1) := by decide +kernel
theorem dL_law_569 : decode cL_law 569 = .ok (.iadd, 1) := by decide +kernel
theorem dL_law_570 : decode cL_law 570 = .ok (.iaload, 1) := by decide +kernel
theorem dL_law_571 : decode cL_law 571 = .ok (.invokevirtual 72, 3) := by decide +kernel
theorem dL_law_574 : decode cL_law 574 = .ok (.aload_n 2, 1) := by decide +kernel
theorem dL_law_575 : decode cL_law 575 = .ok (.aload_n 0, 1) := by decide +kernel
theorem dL_law_576 : decode cL_law 576 = .ok (.iload_n 3, 1) := by decide +kernel
theorem dL_law_577 : decode cL_law 577 = .ok (.iconst 1, 1) := by decide +kernel
theorem dL_law_578 : decode cL_law 578 = .ok (.iadd, 1) := by decide +kernel
theorem dL_law_579 : decode cL_law 579 = .ok (.iaload, 1) := by decide +kernel
theorem dL_law_580 : decode cL_law 580 = .ok (.invokevirtual 75, 3) := by decide +kernel
theorem dL_law_583 : decode cL_law 583 = .ok (.if_icmp .eq 469, 3) := by decide +kernel
theorem dL_law_586 : decode cL_law 586 = .ok (.iconst 0, 1) := by decide +kernel
theorem dL_law_587 : decode cL_law 587 = .ok (.ireturn, 1) := by decide +kernel
theorem dL_law_588 : decode cL_law 588 = .ok (.aload_n 1, 1) := by decide +kernel
theorem dL_law_589 : decode cL_law 589 = .ok (.aload_n 0, 1) := by decide +kernel
theorem dL_law_590 : decode cL_law 590 = .ok (.iload_n 3, 1) := by decide +kernel
theorem dL_law_591 : decode cL_law 591 = .ok (.iconst 1, 1) := by decide +kernel
theorem dL_law_592 : decode cL_law 592 = .ok (.iadd, 1) := by decide +kernel
theorem dL_law_593 : decode cL_law 593 = .ok (.iaload, 1) := by decide +kernel
theorem dL_law_594 : decode cL_law 594 = .ok (.invokevirtual 76, 3) := by decide +kernel
theorem dL_law_597 : decode cL_law 597 = .ok (.aload_n 2, 1) := by decide +kernel
theorem dL_law_598 : decode cL_law 598 = .ok (.aload_n 0, 1) := by decide +kernel
theorem dL_law_599 : decode cL_law 599 = .ok (.iload_n 3, 1) := by decide +kernel
theorem dL_law_600 : decode cL_law 600 = .ok (.iconst 1, 1) := by decide +kernel
theorem dL_law_601 : decode cL_law 601 = .ok (.iadd, 1) := by decide +kernel
theorem dL_law_602 : decode cL_law 602 = .ok (.iaload, 1) := by decide +kernel
theorem dL_law_603 : decode cL_law 603 = .ok (.invokevirtual 79, 3) := by decide +kernel
theorem dL_law_606 : decode cL_law 606 = .ok (.if_icmp .eq 446, 3) := by decide +kernel
theorem dL_law_609 : decode cL_law 609 = .ok (.iconst 0, 1) := by decide +kernel
theorem dL_law_610 : decode cL_law 610 = .ok (.ireturn, 1) := by decide +kernel
theorem dL_law_611 : decode cL_law 611 = .ok (.aload_n 1, 1) := by decide +kernel
theorem dL_law_612 : decode cL_law 612 = .ok (.aload_n 0, 1) := by decide +kernel
theorem dL_law_613 : decode cL_law 613 = .ok (.iload_n 3, 1) := by decide +kernel
theorem dL_law_614 : decode cL_law 614 = .ok (.iconst 1, 1) := by decide +kernel
theorem dL_law_615 : decode cL_law 615 = .ok (.iadd, 1) := by decide +kernel
theorem dL_law_616 : decode cL_law 616 = .ok (.iaload, 1) := by decide +kernel
theorem dL_law_617 : decode cL_law 617 = .ok (.aload_n 0, 1) := by decide +kernel
theorem dL_law_618 : decode cL_law 618 = .ok (.iload_n 3, 1) := by decide +kernel
theorem dL_law_619 : decode cL_law 619 = .ok (.iconst 2, 1) := by decide +kernel
theorem dL_law_620 : decode cL_law 620 = .ok (.iadd, 1) := by decide +kernel
theorem dL_law_621 : decode cL_law 621 = .ok (.iaload, 1) := by decide +kernel
theorem dL_law_622 : decode cL_law 622 = .ok (.invokevirtual 80, 3) := by decide +kernel
theorem dL_law_625 : decode cL_law 625 = .ok (.aload_n 2, 1) := by decide +kernel
theorem dL_law_626 : decode cL_law 626 = .ok (.aload_n 0, 1) := by decide +kernel
theorem dL_law_627 : decode cL_law 627 = .ok (.iload_n 3, 1) := by decide +kernel
theorem dL_law_628 : decode cL_law 628 = .ok (.iconst 1, 1) := by decide +kernel
theorem dL_law_629 : decode cL_law 629 = .ok (.iadd, 1) := by decide +kernel
theorem dL_law_630 : decode cL_law 630 = .ok (.iaload, 1) := by decide +kernel
theorem dL_law_631 : decode cL_law 631 = .ok (.aload_n 0, 1) := by decide +kernel
theorem dL_law_632 : decode cL_law 632 = .ok (.iload_n 3, 1) := by decide +kernel
theorem dL_law_633 : decode cL_law 633 = .ok (.iconst 2, 1) := by decide +kernel
theorem dL_law_634 : decode cL_law 634 = .ok (.iadd, 1) := by decide +kernel
theorem dL_law_635 : decode cL_law 635 = .ok (.iaload, 1) := by decide +kernel
theorem dL_law_636 : decode cL_law 636 = .ok (.invokevirtual 83, 3) := by decide +kernel
theorem dL_law_639 : decode cL_law 639 = .ok (.if_icmp .eq 413, 3) := by decide +kernel
theorem dL_law_642 : decode cL_law 642 = .ok (.iconst 0, 1) := by decide +kernel
theorem dL_law_643 : decode cL_law 643 = .ok (.ireturn, 1) := by decide +kernel
theorem dL_law_644 : decode cL_law 644 = .ok (.aload_n 1, 1) := by decide +kernel
theorem dL_law_645 : decode cL_law 645 = .ok (.aload_n 0, 1) := by decide +kernel
theorem dL_law_646 : decode cL_law 646 = .ok (.iload_n 3, 1) := by decide +kernel
theorem dL_law_647 : decode cL_law 647 = .ok (.iconst 1, 1) := by decide +kernel
theorem dL_law_648 : decode cL_law 648 = .ok (.iadd, 1) := by decide +kernel
theorem dL_law_649 : decode cL_law 649 = .ok (.iaload, 1) := by decide +kernel
theorem dL_law_650 : decode cL_law 650 = .ok (.invokevirtual 84, 3) := by decide +kernel
theorem dL_law_653 : decode cL_law 653 = .ok (.aload_n 2, 1) := by decide +kernel
theorem dL_law_654 : decode cL_law 654 = .ok (.aload_n 0, 1) := by decide +kernel
theorem dL_law_655 : decode cL_law 655 = .ok (.iload_n 3, 1) := by decide +kernel
theorem dL_law_656 : decode cL_law 656 = .ok (.iconst 1, 1) := by decide +kernel
theorem dL_law_657 : decode cL_law 657 = .ok (.iadd, 1) := by decide +kernel
theorem dL_law_658 : decode cL_law 658 = .ok (.iaload, 1) := by decide +kernel
theorem dL_law_659 : decode cL_law 659 = .ok (.invokevirtual 87, 3) := by decide +kernel
theorem dL_law_662 : decode cL_law 662 = .ok (.if_icmp .eq 390, 3) := by decide +kernel
theorem dL_law_665 : decode cL_law 665 = .ok (.iconst 0, 1) := by decide +kernel
theorem dL_law_666 : decode cL_law 666 = .ok (.ireturn, 1) := by decide +kernel
theorem dL_law_667 : decode cL_law 667 = .ok (.aload_n 1, 1) := by decide +kernel
theorem dL_law_668 : decode cL_law 668 = .ok (.aload_n 0, 1) := by decide +kernel
theorem dL_law_669 : decode cL_law 669 = .ok (.iload_n 3, 1) := by decide +kernel
theorem dL_law_670 : decode cL_law 670 = .ok (.iconst 1, 1) := by decide +kernel
theorem dL_law_671 : decode cL_law 671 = .ok (.iadd, 1) := by decide +kernel
theorem dL_law_672 : decode cL_law 672 = .ok (.iaload, 1) := by decide +kernel
theorem dL_law_673 : decode cL_law 673 = .ok (.aload_n 0, 1) := by decide +kernel
theorem dL_law_674 : decode cL_law 674 = .ok (.iload_n 3, 1) := by decide +kernel
theorem dL_law_675 : decode cL_law 675 = .ok (.iconst 2, 1) := by decide +kernel
theorem dL_law_676 : decode cL_law 676 = .ok (.iadd, 1) := by decide +kernel
theorem dL_law_677 : decode cL_law 677 = .ok (.iaload, 1) := by decide +kernel
theorem dL_law_678 : decode cL_law 678 = .ok (.invokevirtual 88, 3) := by decide +kernel
theorem dL_law_681 : decode cL_law 681 = .ok (.aload_n 2, 1) := by decide +kernel
theorem dL_law_682 : decode cL_law 682 = .ok (.aload_n 0, 1) := by decide +kernel
theorem dL_law_683 : decode cL_law 683 = .ok (.iload_n 3, 1) := by decide +kernel
theorem dL_law_684 : decode cL_law 684 = .ok (.iconst 1, 1) := by decide +kernel
theorem dL_law_685 : decode cL_law 685 = .ok (.iadd, 1) := by decide +kernel
theorem dL_law_686 : decode cL_law 686 = .ok (.iaload, 1) := by decide +kernel
theorem dL_law_687 : decode cL_law 687 = .ok (.aload_n 0, 1) := by decide +kernel
theorem dL_law_688 : decode cL_law 688 = .ok (.iload_n 3, 1) := by decide +kernel
theorem dL_law_689 : decode cL_law 689 = .ok (.iconst 2, 1) := by decide +kernel
theorem dL_law_690 : decode cL_law 690 = .ok (.iadd, 1) := by decide +kernel
theorem dL_law_691 : decode cL_law 691 = .ok (.iaload, 1) := by decide +kernel
theorem dL_law_692 : decode cL_law 692 = .ok (.invokevirtual 91, 3) := by decide +kernel
theorem dL_law_695 : decode cL_law 695 = .ok (.if_icmp .eq 357, 3) := by decide +kernel
theorem dL_law_698 : decode cL_law 698 = .ok (.iconst 0, 1) := by decide +kernel
theorem dL_law_699 : decode cL_law 699 = .ok (.ireturn, 1) := by decide +kernel
theorem dL_law_700 : decode cL_law 700 = .ok (.aload_n 1, 1) := by decide +kernel
theorem dL_law_701 : decode cL_law 701 = .ok (.aload_n 0, 1) := by decide +kernel
theorem dL_law_702 : decode cL_law 702 = .ok (.iload_n 3, 1) := by decide +kernel
theorem dL_law_703 : decode cL_law 703 = .ok (.iconst 1, 1) := by decide +kernel
theorem dL_law_704 : decode cL_law 704 = .ok (.iadd, 1) := by decide +kernel
theorem dL_law_705 : decode cL_law 705 = .ok (.iaload, 1) := by decide +kernel
theorem dL_law_706 : decode cL_law 706 = .ok (.aload_n 0, 1) := by decide +kernel
theorem dL_law_707 : decode cL_law 707 = .ok (.iload_n 3, 1) := by decide +kernel
theorem dL_law_708 : decode cL_law 708 = .ok (.iconst 2, 1) := by decide +kernel
theorem dL_law_709 : decode cL_law 709 = .ok (.iadd, 1) := by decide +kernel
theorem dL_law_710 : decode cL_law 710 = .ok (.iaload, 1) := by decide +kernel
theorem dL_law_711 : decode cL_law 711 = .ok (.invokevirtual 92, 3) := by decide +kernel
theorem dL_law_714 : decode cL_law 714 = .ok (.aload_n 2, 1) := by decide +kernel
theorem dL_law_715 : decode cL_law 715 = .ok (.aload_n 0, 1) := by decide +kernel
theorem dL_law_716 : decode cL_law 716 = .ok (.iload_n 3, 1) := by decide +kernel
theorem dL_law_717 : decode cL_law 717 = .ok (.iconst 1, 1) := by decide +kernel
theorem dL_law_718 : decode cL_law 718 = .ok (.iadd, 1) := by decide +kernel
theorem dL_law_719 : decode cL_law 719 = .ok (.iaload, 1) := by decide +kernel
theorem dL_law_720 : decode cL_law 720 = .ok (.aload_n 0, 1) := by decide +kernel
theorem dL_law_721 : decode cL_law 721 = .ok (.iload_n 3, 1) := by decide +kernel
theorem dL_law_722 : decode cL_law 722 = .ok (.iconst 2, 1) := by decide +kernel
theorem dL_law_723 : decode cL_law 723 = .ok (.iadd, 1) := by decide +kernel
theorem dL_law_724 : decode cL_law 724 = .ok (.iaload, 1) := by decide +kernel
theorem dL_law_725 : decode cL_law 725 = .ok (.invokevirtual 95, 3) := by decide +kernel
theorem dL_law_728 : decode cL_law 728 = .ok (.if_icmp .eq 324, 3) := by decide +kernel
theorem dL_law_731 : decode cL_law 731 = .ok (.iconst 0, 1) := by decide +kernel
theorem dL_law_732 : decode cL_law 732 = .ok (.ireturn, 1) := by decide +kernel
theorem dL_law_733 : decode cL_law 733 = .ok (.aload_n 1, 1) := by decide +kernel
theorem dL_law_734 : decode cL_law 734 = .ok (.aload_n 0, 1) := by decide +kernel
theorem dL_law_735 : decode cL_law 735 = .ok (.iload_n 3, 1) := by decide +kernel
theorem dL_law_736 : decode cL_law 736 = .ok (.iconst 1, 1) := by decide +kernel
theorem dL_law_737 : decode cL_law 737 = .ok (.iadd, 1) := by decide +kernel
theorem dL_law_738 : decode cL_law 738 = .ok (.iaload, 1) := by decide +kernel
theorem dL_law_739 : decode cL_law 739 = .ok (.invokevirtual 96, 3) := by decide +kernel
theorem dL_law_742 : decode cL_law 742 = .ok (.aload_n 2, 1) := by decide +kernel
theorem dL_law_743 : decode cL_law 743 = .ok (.aload_n 0, 1) := by decide +kernel
theorem dL_law_744 : decode cL_law 744 = .ok (.iload_n 3, 1) := by decide +kernel
theorem dL_law_745 : decode cL_law 745 = .ok (.iconst 1, 1) := by decide +kernel
theorem dL_law_746 : decode cL_law 746 = .ok (.iadd, 1) := by decide +kernel
theorem dL_law_747 : decode cL_law 747 = .ok (.iaload, 1) := by decide +kernel
theorem dL_law_748 : decode cL_law 748 = .ok (.invokevirtual 99, 3) := by decide +kernel
theorem dL_law_751 : decode cL_law 751 = .ok (.if_icmp .eq 301, 3) := by decide +kernel
theorem dL_law_754 : decode cL_law 754 = .ok (.iconst 0, 1) := by decide +kernel
theorem dL_law_755 : decode cL_law 755 = .ok (.ireturn, 1) := by decide +kernel
theorem dL_law_756 : decode cL_law 756 = .ok (.aload_n 1, 1) := by decide +kernel
theorem dL_law_757 : decode cL_law 757 = .ok (.aload_n 0, 1) := by decide +kernel
theorem dL_law_758 : decode cL_law 758 = .ok (.iload_n 3, 1) := by decide +kernel
theorem dL_law_759 : decode cL_law 759 = .ok (.iconst 1, 1) := by decide +kernel
theorem dL_law_760 : decode cL_law 760 = .ok (.iadd, 1) := by decide +kernel
theorem dL_law_761 : decode cL_law 761 = .ok (.iaload, 1) := by decide +kernel
theorem dL_law_762 : decode cL_law 762 = .ok (.aload_n 0, 1) := by decide +kernel
theorem dL_law_763 : decode cL_law 763 = .ok (.iload_n 3, 1) := by decide +kernel
theorem dL_law_764 : decode cL_law 764 = .ok (.iconst 2, 1) := by decide +kernel
theorem dL_law_765 : decode cL_law 765 = .ok (.iadd, 1) := by decide +kernel
theorem dL_law_766 : decode cL_law 766 = .ok (.iaload, 1) := by decide +kernel
theorem dL_law_767 : decode cL_law 767 = .ok (.aload_n 0, 1) := by decide +kernel
theorem dL_law_768 : decode cL_law 768 = .ok (.iload_n 3, 1) := by decide +kernel
theorem dL_law_769 : decode cL_law 769 = .ok (.iconst 3, 1) := by decide +kernel
theorem dL_law_770 : decode cL_law 770 = .ok (.iadd, 1) := by decide +kernel
theorem dL_law_771 : decode cL_law 771 = .ok (.iaload, 1) := by decide +kernel
theorem dL_law_772 : decode cL_law 772 = .ok (.invokevirtual 100, 3) := by decide +kernel
theorem dL_law_775 : decode cL_law 775 = .ok (.aload_n 2, 1) := by decide +kernel
theorem dL_law_776 : decode cL_law 776 = .ok (.aload_n 0, 1) := by decide +kernel
theorem dL_law_777 : decode cL_law 777 = .ok (.iload_n 3, 1) := by decide +kernel
theorem dL_law_778 : decode cL_law 778 = .ok (.iconst 1, 1) := by decide +kernel
theorem dL_law_779 : decode cL_law 779 = .ok (.iadd, 1) := by decide +kernel
theorem dL_law_780 : decode cL_law 780 = .ok (.iaload, 1) := by decide +kernel
theorem dL_law_781 : decode cL_law 781 = .ok (.aload_n 0, 1) := by decide +kernel
theorem dL_law_782 : decode cL_law 782 = .ok (.iload_n 3, 1) := by decide +kernel
theorem dL_law_783 : decode cL_law 783 = .ok (.iconst 2, 1) := by decide +kernel
theorem dL_law_784 : decode cL_law 784 = .ok (.iadd, 1) := by decide +kernel
theorem dL_law_785 : decode cL_law 785 = .ok (.iaload, 1) := by decide +kernel
theorem dL_law_786 : decode cL_law 786 = .ok (.aload_n 0, 1) := by decide +kernel
theorem dL_law_787 : decode cL_law 787 = .ok (.iload_n 3, 1) := by decide +kernel
theorem dL_law_788 : decode cL_law 788 = .ok (.iconst 3, 1) := by decide +kernel
theorem dL_law_789 : decode cL_law 789 = .ok (.iadd, 1) := by decide +kernel
theorem dL_law_790 : decode cL_law 790 = .ok (.iaload, 1) := by decide +kernel
theorem dL_law_791 : decode cL_law 791 = .ok (.invokevirtual 103, 3) := by decide +kernel
theorem dL_law_794 : decode cL_law 794 = .ok (.if_icmp .eq 258, 3) := by decide +kernel
theorem dL_law_797 : decode cL_law 797 = .ok (.iconst 0, 1) := by decide +kernel
theorem dL_law_798 : decode cL_law 798 = .ok (.ireturn, 1) := by decide +kernel
theorem dL_law_799 : decode cL_law 799 = .ok (.aload_n 1, 1) := by decide +kernel
theorem dL_law_800 : decode cL_law 800 = .ok (.aload_n 0, 1) := by decide +kernel
theorem dL_law_801 : decode cL_law 801 = .ok (.iload_n 3, 1) := by decide +kernel
theorem dL_law_802 : decode cL_law 802 = .ok (.iconst 1, 1) := by decide +kernel
theorem dL_law_803 : decode cL_law 803 = .ok (.iadd, 1) := by decide +kernel
theorem dL_law_804 : decode cL_law 804 = .ok (.iaload, 1) := by decide +kernel
theorem dL_law_805 : decode cL_law 805 = .ok (.aload_n 0, 1) := by decide +kernel
theorem dL_law_806 : decode cL_law 806 = .ok (.iload_n 3, 1) := by decide +kernel
theorem dL_law_807 : decode cL_law 807 = .ok (.iconst 2, 1) := by decide +kernel
theorem dL_law_808 : decode cL_law 808 = .ok (.iadd, 1) := by decide +kernel
theorem dL_law_809 : decode cL_law 809 = .ok (.iaload, 1) := by decide +kernel
theorem dL_law_810 : decode cL_law 810 = .ok (.invokevirtual 104, 3) := by decide +kernel
theorem dL_law_813 : decode cL_law 813 = .ok (.aload_n 2, 1) := by decide +kernel
theorem dL_law_814 : decode cL_law 814 = .ok (.aload_n 0, 1) := by decide +kernel
theorem dL_law_815 : decode cL_law 815 = .ok (.iload_n 3, 1) := by decide +kernel
theorem dL_law_816 : decode cL_law 816 = .ok (.iconst 1, 1) := by decide +kernel
theorem dL_law_817 : decode cL_law 817 = .ok (.iadd, 1) := by decide +kernel
theorem dL_law_818 : decode cL_law 818 = .ok (.iaload, 1) := by decide +kernel
theorem dL_law_819 : decode cL_law 819 = .ok (.aload_n 0, 1) := by decide +kernel
theorem dL_law_820 : decode cL_law 820 = .ok (.iload_n 3, 1) := by decide +kernel
theorem dL_law_821 : decode cL_law 821 = .ok (.iconst 2, 1) := by decide +kernel
theorem dL_law_822 : decode cL_law 822 = .ok (.iadd, 1) := by decide +kernel
theorem dL_law_823 : decode cL_law 823 = .ok (.iaload, 1) := by decide +kernel
theorem dL_law_824 : decode cL_law 824 = .ok (.invokevirtual 107, 3) := by decide +kernel
theorem dL_law_827 : decode cL_law 827 = .ok (.if_icmp .eq 225, 3) := by decide +kernel
theorem dL_law_830 : decode cL_law 830 = .ok (.iconst 0, 1) := by decide +kernel
theorem dL_law_831 : decode cL_law 831 = .ok (.ireturn, 1) := by decide +kernel
theorem dL_law_832 : decode cL_law 832 = .ok (.aload_n 1, 1) := by decide +kernel
theorem dL_law_833 : decode cL_law 833 = .ok (.invokevirtual 108, 3) := by decide +kernel
theorem dL_law_836 : decode cL_law 836 = .ok (.aload_n 2, 1) := by decide +kernel
theorem dL_law_837 : decode cL_law 837 = .ok (.invokevirtual 111, 3) := by decide +kernel
theorem dL_law_840 : decode cL_law 840 = .ok (.if_icmp .eq 212, 3) := by decide +kernel
theorem dL_law_843 : decode cL_law 843 = .ok (.iconst 0, 1) := by decide +kernel
theorem dL_law_844 : decode cL_law 844 = .ok (.ireturn, 1) := by decide +kernel
theorem dL_law_845 : decode cL_law 845 = .ok (.aload_n 1, 1) := by decide +kernel
theorem dL_law_846 : decode cL_law 846 = .ok (.aload_n 0, 1) := by decide +kernel
theorem dL_law_847 : decode cL_law 847 = .ok (.iload_n 3, 1) := by decide +kernel
theorem dL_law_848 : decode cL_law 848 = .ok (.iconst 1, 1) := by decide +kernel
theorem dL_law_849 : decode cL_law 849 = .ok (.iadd, 1) := by decide +kernel
theorem dL_law_850 : decode cL_law 850 = .ok (.iaload, 1) := by decide +kernel
theorem dL_law_851 : decode cL_law 851 = .ok (.invokevirtual 112, 3) := by decide +kernel
theorem dL_law_854 : decode cL_law 854 = .ok (.aload_n 2, 1) := by decide +kernel
theorem dL_law_855 : decode cL_law 855 = .ok (.aload_n 0, 1) := by decide +kernel
theorem dL_law_856 : decode cL_law 856 = .ok (.iload_n 3, 1) := by decide +kernel
theorem dL_law_857 : decode cL_law 857 = .ok (.iconst 1, 1) := by decide +kernel
theorem dL_law_858 : decode cL_law 858 = .ok (.iadd, 1) := by decide +kernel
theorem dL_law_859 : decode cL_law 859 = .ok (.iaload, 1) := by decide +kernel
theorem dL_law_860 : decode cL_law 860 = .ok (.invokevirtual 115, 3) := by decide +kernel
theorem dL_law_863 : decode cL_law 863 = .ok (.if_icmp .eq 189, 3) := by decide +kernel
theorem dL_law_866 : decode cL_law 866 = .ok (.iconst 0, 1) := by decide +kernel
theorem dL_law_867 : decode cL_law 867 = .ok (.ireturn, 1) := by decide +kernel
theorem dL_law_868 : decode cL_law 868 = .ok (.aload_n 1, 1) := by decide +kernel
theorem dL_law_869 : decode cL_law 869 = .ok (.invokevirtual 116, 3) := by decide +kernel
theorem dL_law_872 : decode cL_law 872 = .ok (.aload_n 2, 1) := by decide +kernel
theorem dL_law_873 : decode cL_law 873 = .ok (.invokevirtual 119, 3) := by decide +kernel
theorem dL_law_876 : decode cL_law 876 = .ok (.if_icmp .eq 176, 3) := by decide +kernel
theorem dL_law_879 : decode cL_law 879 = .ok (.iconst 0, 1) := by decide +kernel
theorem dL_law_880 : decode cL_law 880 = .ok (.ireturn, 1) := by decide +kernel
theorem dL_law_881 : decode cL_law 881 = .ok (.aload_n 1, 1) := by decide +kernel
theorem dL_law_882 : decode cL_law 882 = .ok (.aload_n 0, 1) := by decide +kernel
theorem dL_law_883 : decode cL_law 883 = .ok (.iload_n 3, 1) := by decide +kernel
theorem dL_law_884 : decode cL_law 884 = .ok (.iconst 1, 1) := by decide +kernel
theorem dL_law_885 : decode cL_law 885 = .ok (.iadd, 1) := by decide +kernel
theorem dL_law_886 : decode cL_law 886 = .ok (.iaload, 1) := by decide +kernel
theorem dL_law_887 : decode cL_law 887 = .ok (.invokevirtual 120, 3) := by decide +kernel
theorem dL_law_890 : decode cL_law 890 = .ok (.aload_n 2, 1) := by decide +kernel
theorem dL_law_891 : decode cL_law 891 = .ok (.aload_n 0, 1) := by decide +kernel
theorem dL_law_892 : decode cL_law 892 = .ok (.iload_n 3, 1) := by decide +kernel
theorem dL_law_893 : decode cL_law 893 = .ok (.iconst 1, 1) := by decide +kernel
theorem dL_law_894 : decode cL_law 894 = .ok (.iadd, 1) := by decide +kernel
theorem dL_law_895 : decode cL_law 895 = .ok (.iaload, 1) := by decide +kernel
theorem dL_law_896 : decode cL_law 896 = .ok (.invokevirtual 123, 3) := by decide +kernel
theorem dL_law_899 : decode cL_law 899 = .ok (.if_icmp .eq 153, 3) := by decide +kernel
theorem dL_law_902 : decode cL_law 902 = .ok (.iconst 0, 1) := by decide +kernel
theorem dL_law_903 : decode cL_law 903 = .ok (.ireturn, 1) := by decide +kernel
theorem dL_law_904 : decode cL_law 904 = .ok (.aload_n 1, 1) := by decide +kernel
theorem dL_law_905 : decode cL_law 905 = .ok (.aload_n 0, 1) := by decide +kernel
theorem dL_law_906 : decode cL_law 906 = .ok (.iload_n 3, 1) := by decide +kernel
theorem dL_law_907 : decode cL_law 907 = .ok (.iconst 1, 1) := by decide +kernel
theorem dL_law_908 : decode cL_law 908 = .ok (.iadd, 1) := by decide +kernel
theorem dL_law_909 : decode cL_law 909 = .ok (.iaload, 1) := by decide +kernel
theorem dL_law_910 : decode cL_law 910 = .ok (.aload_n 0, 1) := by decide +kernel
theorem dL_law_911 : decode cL_law 911 = .ok (.iload_n 3, 1) := by decide +kernel
theorem dL_law_912 : decode cL_law 912 = .ok (.iconst 2, 1) := by decide +kernel
theorem dL_law_913 : decode cL_law 913 = .ok (.iadd, 1) := by decide +kernel
theorem dL_law_914 : decode cL_law 914 = .ok (.iaload, 1) := by decide +kernel
theorem dL_law_915 : decode cL_law 915 = .ok (.aload_n 0, 1) := by decide +kernel
theorem dL_law_916 : decode cL_law 916 = .ok (.iload_n 3, 1) := by decide +kernel
theorem dL_law_917 : decode cL_law 917 = .ok (.iconst 3, 1) := by decide +kernel
theorem dL_law_918 : decode cL_law 918 = .ok (.iadd, 1) := by decide +kernel
theorem dL_law_919 : decode cL_law 919 = .ok (.iaload, 1) := by decide +kernel
theorem dL_law_920 : decode cL_law 920 = .ok (.aload_n 0, 1) := by decide +kernel
theorem dL_law_921 : decode cL_law 921 = .ok (.iload_n 3, 1) := by decide +kernel
theorem dL_law_922 : decode cL_law 922 = .ok (.iconst 4, 1) := by decide +kernel
theorem dL_law_923 : decode cL_law 923 = .ok (.iadd, 1) := by decide +kernel
theorem dL_law_924 : decode cL_law 924 = .ok (.iaload, 1) := by decide +kernel
theorem dL_law_925 : decode cL_law 925 = .ok (.invokevirtual 124, 3) := by decide +kernel
theorem dL_law_928 : decode cL_law 928 = .ok (.aload_n 2, 1) := by decide +kernel
theorem dL_law_929 : decode cL_law 929 = .ok (.aload_n 0, 1) := by decide +kernel
theorem dL_law_930 : decode cL_law 930 = .ok (.iload_n 3, 1) := by decide +kernel
theorem dL_law_931 : decode cL_law 931 = .ok (.iconst 1, 1) := by decide +kernel
theorem dL_law_932 : decode cL_law 932 = .ok (.iadd, 1) := by decide +kernel
theorem dL_law_933 : decode cL_law 933 = .ok (.iaload, 1) := by decide +kernel
theorem dL_law_934 : decode cL_law 934 = .ok (.aload_n 0, 1) := by decide +kernel
theorem dL_law_935 : decode cL_law 935 = .ok (.iload_n 3, 1) := by decide +kernel
theorem dL_law_936 : decode cL_law 936 = .ok (.iconst 2, 1) := by decide +kernel
theorem dL_law_937 : decode cL_law 937 = .ok (.iadd, 1) := by decide +kernel
theorem dL_law_938 : decode cL_law 938 = .ok (.iaload, 1) := by decide +kernel
theorem dL_law_939 : decode cL_law 939 = .ok (.aload_n 0, 1) := by decide +kernel
theorem dL_law_940 : decode cL_law 940 = .ok (.iload_n 3, 1) := by decide +kernel
theorem dL_law_941 : decode cL_law 941 = .ok (.iconst 3, 1) := by decide +kernel
theorem dL_law_942 : decode cL_law 942 = .ok (.iadd, 1) := by decide +kernel
theorem dL_law_943 : decode cL_law 943 = .ok (.iaload, 1) := by decide +kernel
theorem dL_law_944 : decode cL_law 944 = .ok (.aload_n 0, 1) := by decide +kernel
theorem dL_law_945 : decode cL_law 945 = .ok (.iload_n 3, 1) := by decide +kernel
theorem dL_law_946 : decode cL_law 946 = .ok (.iconst 4, 1) := by decide +kernel
theorem dL_law_947 : decode cL_law 947 = .ok (.iadd, 1) := by decide +kernel
theorem dL_law_948 : decode cL_law 948 = .ok (.iaload, 1) := by decide +kernel
theorem dL_law_949 : decode cL_law 949 = .ok (.invokevirtual 128, 3) := by decide +kernel
theorem dL_law_952 : decode cL_law 952 = .ok (.if_icmp .eq 100, 3) := by decide +kernel
theorem dL_law_955 : decode cL_law 955 = .ok (.iconst 0, 1) := by decide +kernel
theorem dL_law_956 : decode cL_law 956 = .ok (.ireturn, 1) := by decide +kernel
theorem dL_law_957 : decode cL_law 957 = .ok (.aload_n 1, 1) := by decide +kernel
theorem dL_law_958 : decode cL_law 958 = .ok (.aload_n 0, 1) := by decide +kernel
theorem dL_law_959 : decode cL_law 959 = .ok (.iload_n 3, 1) := by decide +kernel
theorem dL_law_960 : decode cL_law 960 = .ok (.iconst 1, 1) := by decide +kernel
theorem dL_law_961 : decode cL_law 961 = .ok (.iadd, 1) := by decide +kernel
theorem dL_law_962 : decode cL_law 962 = .ok (.iaload, 1) := by decide +kernel
theorem dL_law_963 : decode cL_law 963 = .ok (.invokevirtual 129, 3) := by decide +kernel
theorem dL_law_966 : decode cL_law 966 = .ok (.aload_n 2, 1) := by decide +kernel
theorem dL_law_967 : decode cL_law 967 = .ok (.aload_n 0, 1) := by decide +kernel
theorem dL_law_968 : decode cL_law 968 = .ok (.iload_n 3, 1) := by decide +kernel
theorem dL_law_969 : decode cL_law 969 = .ok (.iconst 1, 1) := by decide +kernel
theorem dL_law_970 : decode cL_law 970 = .ok (.iadd, 1) := by decide +kernel
theorem dL_law_971 : decode cL_law 971 = .ok (.iaload, 1) := by decide +kernel
theorem dL_law_972 : decode cL_law 972 = .ok (.invokevirtual 132, 3) := by decide +kernel
theorem dL_law_975 : decode cL_law 975 = .ok (.if_icmp .eq 77, 3) := by decide +kernel
theorem dL_law_978 : decode cL_law 978 = .ok (.iconst 0, 1) := by decide +kernel
theorem dL_law_979 : decode cL_law 979 = .ok (.ireturn, 1) := by decide +kernel
theorem dL_law_980 : decode cL_law 980 = .ok (.aload_n 1, 1) := by decide +kernel
theorem dL_law_981 : decode cL_law 981 = .ok (.aload_n 0, 1) := by decide +kernel
theorem dL_law_982 : decode cL_law 982 = .ok (.iload_n 3, 1) := by decide +kernel
theorem dL_law_983 : decode cL_law 983 = .ok (.iconst 1, 1) := by decide +kernel
theorem dL_law_984 : decode cL_law 984 = .ok (.iadd, 1) := by decide +kernel
theorem dL_law_985 : decode cL_law 985 = .ok (.iaload, 1) := by decide +kernel
theorem dL_law_986 : decode cL_law 986 = .ok (.invokevirtual 133, 3) := by decide +kernel
theorem dL_law_989 : decode cL_law 989 = .ok (.aload_n 2, 1) := by decide +kernel
theorem dL_law_990 : decode cL_law 990 = .ok (.aload_n 0, 1) := by decide +kernel
theorem dL_law_991 : decode cL_law 991 = .ok (.iload_n 3, 1) := by decide +kernel
theorem dL_law_992 : decode cL_law 992 = .ok (.iconst 1, 1) := by decide +kernel
theorem dL_law_993 : decode cL_law 993 = .ok (.iadd, 1) := by decide +kernel
theorem dL_law_994 : decode cL_law 994 = .ok (.iaload, 1) := by decide +kernel
theorem dL_law_995 : decode cL_law 995 = .ok (.invokevirtual 136, 3) := by decide +kernel
theorem dL_law_998 : decode cL_law 998 = .ok (.if_icmp .eq 54, 3) := by decide +kernel
theorem dL_law_1001 : decode cL_law 1001 = .ok (.iconst 0, 1) := by decide +kernel
theorem dL_law_1002 : decode cL_law 1002 = .ok (.ireturn, 1) := by decide +kernel
theorem dL_law_1003 : decode cL_law 1003 = .ok (.aload_n 1, 1) := by decide +kernel
theorem dL_law_1004 : decode cL_law 1004 = .ok (.invokevirtual 137, 3) := by decide +kernel
theorem dL_law_1007 : decode cL_law 1007 = .ok (.aload_n 2, 1) := by decide +kernel
theorem dL_law_1008 : decode cL_law 1008 = .ok (.invokevirtual 140, 3) := by decide +kernel
theorem dL_law_1011 : decode cL_law 1011 = .ok (.if_icmp .eq 41, 3) := by decide +kernel
theorem dL_law_1014 : decode cL_law 1014 = .ok (.iconst 0, 1) := by decide +kernel
theorem dL_law_1015 : decode cL_law 1015 = .ok (.ireturn, 1) := by decide +kernel
theorem dL_law_1016 : decode cL_law 1016 = .ok (.aload_n 1, 1) := by decide +kernel
theorem dL_law_1017 : decode cL_law 1017 = .ok (.invokevirtual 141, 3) := by decide +kernel
theorem dL_law_1020 : decode cL_law 1020 = .ok (.aload_n 2, 1) := by decide +kernel
theorem dL_law_1021 : decode cL_law 1021 = .ok (.invokevirtual 144, 3) := by decide +kernel
theorem dL_law_1024 : decode cL_law 1024 = .ok (.if_icmp .eq 28, 3) := by decide +kernel
theorem dL_law_1027 : decode cL_law 1027 = .ok (.iconst 0, 1) := by decide +kernel
theorem dL_law_1028 : decode cL_law 1028 = .ok (.ireturn, 1) := by decide +kernel
theorem dL_law_1029 : decode cL_law 1029 = .ok (.aload_n 1, 1) := by decide +kernel
theorem dL_law_1030 : decode cL_law 1030 = .ok (.aload_n 0, 1) := by decide +kernel
theorem dL_law_1031 : decode cL_law 1031 = .ok (.iload_n 3, 1) := by decide +kernel
theorem dL_law_1032 : decode cL_law 1032 = .ok (.iconst 1, 1) := by decide +kernel
theorem dL_law_1033 : decode cL_law 1033 = .ok (.iadd, 1) := by decide +kernel
theorem dL_law_1034 : decode cL_law 1034 = .ok (.iaload, 1) := by decide +kernel
theorem dL_law_1035 : decode cL_law 1035 = .ok (.invokevirtual 145, 3) := by decide +kernel
theorem dL_law_1038 : decode cL_law 1038 = .ok (.aload_n 2, 1) := by decide +kernel
theorem dL_law_1039 : decode cL_law 1039 = .ok (.aload_n 0, 1) := by decide +kernel
theorem dL_law_1040 : decode cL_law 1040 = .ok (.iload_n 3, 1) := by decide +kernel
theorem dL_law_1041 : decode cL_law 1041 = .ok (.iconst 1, 1) := by decide +kernel
theorem dL_law_1042 : decode cL_law 1042 = .ok (.iadd, 1) := by decide +kernel
theorem dL_law_1043 : decode cL_law 1043 = .ok (.iaload, 1) := by decide +kernel
theorem dL_law_1044 : decode cL_law 1044 = .ok (.invokevirtual 148, 3) := by decide +kernel
theorem dL_law_1047 : decode cL_law 1047 = .ok (.if_icmp .eq 5, 3) := by decide +kernel
theorem dL_law_1050 : decode cL_law 1050 = .ok (.iconst 0, 1) := by decide +kernel
theorem dL_law_1051 : decode cL_law 1051 = .ok (.ireturn, 1) := by decide +kernel
theorem dL_law_1052 : decode cL_law 1052 = .ok (.iinc 3 5, 3) := by decide +kernel
theorem dL_law_1055 : decode cL_law 1055 = .ok (.goto (-1037), 3) := by decide +kernel
theorem dL_law_1058 : decode cL_law 1058 = .ok (.iconst 1, 1) := by decide +kernel
theorem dL_law_1059 : decode cL_law 1059 = .ok (.ireturn, 1) := by decide +kernel
end
section
/-! ===== the memory of the whole system: object numbers, their types, lengths and links ===== -/
abbrev Mem : Type := Nat → Nat → Int32
def mrow (M : Mem) (o : Nat) (f : Nat → Int32) : Mem := fun q => if q = o then f else M q
def mset (M : Mem) (o k : Nat) (v : Int32) : Mem := mrow M o (upd (M o) k v)
-- objects: 103 parties [11, 34, 57] model 80
def tyL : List Nat := [8, 11, 0, 11, 1, 11, 1, 11, 6, 10, 11, 2, 4, 11, 12, 3, 5, 11, 11, 12, 13, 12, 7, 7, 7, 7, 7, 7, 7, 7, 7, 7, 7, 7, 2, 4, 11, 12, 3, 5, 11, 11, 12, 13, 12, 7, 7, 7, 7, 7, 7, 7, 7, 7, 7, 7, 7, 2, 4, 11, 12, 3, 5, 11, 11, 12, 13, 12, 7, 7, 7, 7, 7, 7, 7, 7, 7, 7, 7, 7, 9, 11, 11, 11, 11, 11, 11, 11, 11, 11, 11, 11, 11, 11, 11, 11, 11, 11, 11, 11, 11, 11, 11]
def lnL : List Nat := [0, 7, 0, 12, 0, 16, 0, 60, 0, 64, 3, 0, 0, 11, 60, 0, 0, 12, 132, 11, 12, 60, 0, 0, 0, 0, 0, 0, 0, 0, 0, 0, 0, 0, 0, 0, 11, 60, 0, 0, 12, 132, 11, 12, 60, 0, 0, 0, 0, 0, 0, 0, 0, 0, 0, 0, 0, 0, 0, 11, 60, 0, 0, 12, 132, 11, 12, 60, 0, 0, 0, 0, 0, 0, 0, 0, 0, 0, 0, 0, 0, 7, 60, 12, 12, 12, 12, 12, 12, 12, 12, 12, 64, 32, 32, 32, 32, 32, 400, 12, 12, 16, 60]
def lkL : List (List Nat) := [[2, 11, 57, 4, 6, 8, 1], [], [11, 34, 3], [], [5], [], [7], [], [9, 10], [], [], [12, 15, 16, 20, 21], [0, 0, 13, 14], [], [], [], [17, 18, 19], [], [], [], [22, 23, 24, 25, 26, 27, 28, 29, 30, 31, 32, 33], [], [], [], [], [], [], [], [], [], [], [], [], [], [35, 38, 39, 43, 44], [0, 0, 36, 37], [], [], [], [40, 41, 42], [], [], [], [45, 46, 47, 48, 49, 50, 51, 52, 53, 54, 55, 56], [], [], [], [], [], [], [], [], [], [], [], [], [], [58, 61, 62, 66, 67], [0, 0, 59, 60], [], [], [], [63, 64, 65], [], [], [], [68, 69, 70, 71, 72, 73, 74, 75, 76, 77, 78, 79], [], [], [], [], [], [], [], [], [], [], [], [], [], [81, 82, 83, 84, 85, 86, 87, 88, 89, 90, 91, 0, 0, 0, 0, 0, 0, 0, 0, 0, 92, 93, 94, 95, 96, 97, 0, 0, 0, 98, 0, 0, 0, 99, 100, 0, 0, 0, 0, 0, 101, 102, 0, 0], [], [], [], [], [], [], [], [], [], [], [], [], [], [], [], [], [], [], [], [], [], []]
def rfL : List (List Bool) := [[true, true, true, false, false], [true, false], [true, true, true, true, true, false, false, false, false, false], [false, false, false], [false, false, true, true], [true, true, true, false, false], [true, true, false, false, false, false], [false, false, false, false, false, false, false, false, false], [true, true, true, true, true, true, true, false], [true, true, true, true, true, true, true, true, true, true, true, false, false, false, false, false, false, false, false, false, true, true, true, true, true, true, false, false, false, true, false, false, false, true, true, false, false, false, false, false, true, true, false, false]]
def nfL : List Nat := [5, 2, 10, 3, 4, 5, 6, 9, 8, 44]
def typ (o : Nat) : Nat := tyL.getD o 99
def alen (o : Nat) : Nat := lnL.getD o 0
def link (o k : Nat) : Nat := (lkL.getD o []).getD k 0
def nfs (c : Nat) : Nat := nfL.getD c 0
def isRf (c k : Nat) : Bool := (rfL.getD c []).getD k false
/-- a name for a memory, a number; what a call gives -/
def mlet (X : Mem) (F : Mem → Option (Int32 × Mem)) : Option (Int32 × Mem) := F X
def ilet (x : Int32) (F : Int32 → Option (Int32 × Mem)) : Option (Int32 × Mem) := F x
def cb (x : Option (Int32 × Mem)) (F : Int32 → Mem → Option (Int32 × Mem)) : Option (Int32 × Mem) := match x with
  | none => none
  | some q => F q.1 q.2
theorem cb_spec {x : Option (Int32 × Mem)} {F : Int32 → Mem → Option (Int32 × Mem)} {z : Int32 × Mem} (h : cb x F = some z) : ∃ r M, x = some (r, M) ∧ F r M = some z := by
  cases x with
  | none => cases h
  | some q => exact ⟨q.1, q.2, rfl, h⟩
abbrev inB (i : Int32) (n : Nat) : Prop := ¬ (i < 0 ∨ n ≤ i.toNatClampNeg)
/-- a value fits a boolean -/
abbrev bz (x : Int32) : Prop := x = 0 ∨ x = 1
theorem typ_lt {o c : Nat} (h : typ o = c) (hc : c < 99) : o < 103 := by
  rcases Nat.lt_or_ge o 103 with q | q
  · exact q
  · have : typ o = 99 := by
      unfold typ
      rw [List.getD_eq_getElem?_getD, List.getElem?_eq_none (by show 103 ≤ o; exact q)]
      rfl
    omega
theorem t_all (P : Nat → Bool) (h : (List.range 103).all P = true) {o : Nat} (ho : o < 103) : P o = true := List.all_eq_true.mp h o (List.mem_range.mpr ho)
theorem t_lk {c k d : Nat} (h : (List.range 103).all (fun o => typ o != c || typ (link o k) == d) = true) (hc : c < 99) {o : Nat} (ho : typ o = c) : typ (link o k) = d := by
  have := t_all _ h (typ_lt ho hc)
  simpa [ho] using this
theorem t_ln {c k d : Nat} (h : (List.range 103).all (fun o => typ o != c || alen (link o k) == d) = true) (hc : c < 99) {o : Nat} (ho : typ o = c) : alen (link o k) = d := by
  have := t_all _ h (typ_lt ho hc)
  simpa [ho] using this
theorem t_wk {o : Nat} (ho : typ o = 13) {i : Nat} (hi : i < alen o) : typ (link o i) = 7 := by
  have h := t_all (fun o => typ o != 13 || (List.range (alen o)).all (fun i => typ (link o i) == 7)) (by decide +kernel) (typ_lt ho (by decide))
  have h2 : (List.range (alen o)).all (fun i => typ (link o i) == 7) = true := by simpa [ho] using h
  simpa using List.all_eq_true.mp h2 i (List.mem_range.mpr hi)
/-! ===== the world that a memory spells ===== -/
abbrev WE : Type := va_G × (Nat → ClassId) × (Nat → Nat) × (Nat → Nat) × (Nat → Nat)
def wD (w : WE) : va_G := w.1
def wC (w : WE) : Nat → ClassId := w.2.1
def wa (w : WE) : Nat → Nat := w.2.2.1
def wk (w : WE) : Nat → Nat := w.2.2.2.1
def wv (w : WE) : Nat → Nat := w.2.2.2.2
def cellF (a : Nat → Nat) (M : Mem) (o : Nat) : List Value := (List.range (nfs (typ o))).map (fun k => if isRf (typ o) k = true then .ref (a (link o k)) else .int (M o k))
def cellE (cA : Nat → ClassId) (a : Nat → Nat) (M : Mem) (o : Nat) : va_E := if typ o < 10 then .inr (typ o, cellF a M o) else if typ o = 13 then .inl (cA 3, alen o, .inr (.inr (.inr (.inr (fun i => some (a (link o i))))))) else .inl (cA (typ o - 10), alen o, .inl (M o))
def wsW (w : WE) (M : Mem) : va_W := (List.range 103).map (fun o => (wa w o, cellE (wC w) (wa w) M o))
def tysW (w : WE) : List (ClassId × FieldType) := [(wC w 0, .byte), (wC w 1, .int), (wC w 2, .boolean), (wC w 3, .object "ChairTooFew$Walker")]
theorem wsW_get (w : WE) (M : Mem) {o : Nat} (ho : o < 103) : (wsW w M)[o]? = some (wa w o, cellE (wC w) (wa w) M o) := by simp [wsW, ho]
theorem cellE_o {cA : Nat → ClassId} {a : Nat → Nat} {M : Mem} {o c : Nat} (h : typ o = c) (hc : c < 10) : cellE cA a M o = .inr (c, cellF a M o) := by
  subst h; simp [cellE, hc]
theorem cellE_w {cA : Nat → ClassId} {a : Nat → Nat} {M : Mem} {o : Nat} (h : typ o = 13) : cellE cA a M o = .inl (cA 3, alen o, .inr (.inr (.inr (.inr (fun i => some (a (link o i))))))) := by
  simp [cellE, h]
theorem cellE_a {cA : Nat → ClassId} {a : Nat → Nat} {M : Mem} {o c : Nat} (h : typ o = c) (h1 : 10 ≤ c) (h2 : c < 13) : cellE cA a M o = .inl (cA (c - 10), alen o, .inl (M o)) := by
  have e1 : ¬ typ o < 10 := by omega
  have e2 : ¬ typ o = 13 := by omega
  unfold cellE
  rw [if_neg e1, if_neg e2, h]
theorem wsW_o (w : WE) (M : Mem) {o c : Nat} (h : typ o = c) (hc : c < 10) : (wsW w M)[o]? = some (wa w o, .inr (c, cellF (wa w) M o)) := by
  rw [wsW_get w M (typ_lt h (by omega)), cellE_o h hc]
theorem wsW_w (w : WE) (M : Mem) {o : Nat} (h : typ o = 13) : (wsW w M)[o]? = some (wa w o, .inl (wC w 3, alen o, .inr (.inr (.inr (.inr (fun i => some (wa w (link o i)))))))) := by
  rw [wsW_get w M (typ_lt h (by omega)), cellE_w h]
theorem wsW_a (w : WE) (M : Mem) {o c : Nat} (h : typ o = c) (h1 : 10 ≤ c) (h2 : c < 13) : (wsW w M)[o]? = some (wa w o, .inl (wC w (c - 10), alen o, .inl (M o))) := by
  rw [wsW_get w M (typ_lt h (by omega)), cellE_a h h1 h2]
theorem cellF_get {a : Nat → Nat} {M : Mem} {o c k : Nat} (h : typ o = c) (hk : k < nfs c) : (cellF a M o)[k]? = some (if isRf c k = true then .ref (a (link o k)) else .int (M o k)) := by
  subst h; simp [cellF, hk]
theorem cellF_len {a : Nat → Nat} {M : Mem} {o c : Nat} (h : typ o = c) : (cellF a M o).length = nfs c := by
  subst h; simp [cellF]
theorem cellF_set {a : Nat → Nat} {M : Mem} {o c k : Nat} {x : Int32} (h : typ o = c) (hr : isRf c k = false) : (cellF a M o).set k (.int x) = cellF a (mset M o k x) o := by
  subst h
  apply List.ext_getElem?
  intro j
  rw [List.getElem?_set]
  by_cases hj : j < nfs (typ o)
  · rw [cellF_get rfl hj, cellF_get rfl hj]
    by_cases hjk : k = j
    · subst hjk
      rw [if_pos rfl, if_pos (by rw [cellF_len rfl]; exact hj), hr]
      simp [mset, mrow, upd]
    · rw [if_neg hjk]
      have : mset M o k x o j = M o j := by simp [mset, mrow, upd, Ne.symm hjk]
      rw [this]
  · have e1 : (cellF a M o)[j]? = none := List.getElem?_eq_none (by rw [cellF_len rfl]; omega)
    have e2 : (cellF a (mset M o k x) o)[j]? = none := List.getElem?_eq_none (by rw [cellF_len rfl]; omega)
    rw [e1, e2]
    by_cases hjk : k = j
    · rw [if_pos hjk, if_neg (by rw [cellF_len rfl]; omega)]
    · rw [if_neg hjk]
theorem cellE_ne {cA : Nat → ClassId} {a : Nat → Nat} {M M' : Mem} {o : Nat} (h : M' o = M o) : cellE cA a M' o = cellE cA a M o := by
  simp only [cellE, cellF, h]
theorem wsW_set (w : WE) (M : Mem) {o : Nat} (ho : o < 103) (f : Nat → Int32) : (wsW w M).set o (wa w o, cellE (wC w) (wa w) (mrow M o f) o) = wsW w (mrow M o f) := by
  apply List.ext_getElem?
  intro j
  rw [List.getElem?_set]
  by_cases hj : j < 103
  · rw [wsW_get w _ hj, wsW_get w _ hj]
    by_cases hjo : o = j
    · subst hjo
      rw [if_pos rfl, if_pos (by simp [wsW, ho])]
    · rw [if_neg hjo, cellE_ne (M := M) (M' := mrow M o f) (if_neg (fun h => hjo h.symm))]
  · have e1 : ∀ M' : Mem, (wsW w M')[j]? = none := fun M' => List.getElem?_eq_none (by simp [wsW]; omega)
    rw [e1, e1]
    by_cases hjo : o = j
    · omega
    · rw [if_neg hjo]
def AW (w : WE) : Nat → Prop := fun q => ∃ o : Nat, o < 103 ∧ q = wa w o
theorem wsW_A (w : WE) (M : Mem) : ∀ (k : Nat) (q : Nat × va_E), (wsW w M)[k]? = some q → AW w q.1 := by
  intro k q h
  have hk : k < 103 := by
    have := (List.getElem?_eq_some_iff.mp h).1
    simpa [wsW] using this
  rw [wsW_get w M hk] at h
  cases h
  exact ⟨k, hk, rfl⟩
def slen : List Nat := [3, 3, 7, 5, 3, 0]
def sbyt : List (List Int32) := [[110, 35, 59], [99, 35, 59], [119, 35, 44, 100, 44, 35, 59], [112, 100, 44, 35, 59], [102, 100, 59], []]
def sidx : List Nat := [66, 68, 70, 72, 74, 76]
def stxt : List String := ["n#;", "c#;", "w#,d,#;", "pd,#;", "fd;", ""]
def nestL : List (String × Nat) := [("ChairTooFew$Party", 100), ("ChairTooFew$Player", 21), ("ChairTooFew$Text", 101)]
/-- the texts and the statics that stand outside the world -/
def SE (w : WE) (U : State) (H : Heap) : Prop := vk_S 6 slen sbyt (wk w) (wv w) (AW w) U H ∧ (∀ i : Nat, i < 6 → vk_R RX6 (sidx.getD i 0) (stxt.getD i "") (wk w i) U) ∧ va_Z "java/lang/String" "COMPACT_STRINGS" "Z" (.int 1) (AW w) U H ∧ va_Zq "jdk/internal/util/Preconditions" "SIOOBE_FORMATTER" "Ljava/util/function/BiFunction;" (AW w) U H ∧ ∀ q ∈ nestL, va_Nw (.methodLinkNest q.1 q.2 yX8_whyNotWithin "ChairTooFew") U
theorem SE.warm {w : WE} {s U : State} {H : Heap} (hW : s.WarmedH U.vm) (h : SE w s H) : SE w U H :=
  ⟨vk_S.moved hW.alike h.1, fun i hi => vk_R.warm hW (h.2.1 i hi), va_Z.moved hW.alike h.2.2.1, va_Zq.moved hW.alike h.2.2.2.1, fun q hq => va_Nw.warmM hW (h.2.2.2.2 q hq)⟩
theorem SE.same {w : WE} {u U : State} {H : Heap} (hv : U.vm = u.vm) (h : SE w u H) : SE w U H :=
  ⟨vk_S.moved (u := u) (U := U) (by rw [hv]; exact Vm.Alike.refl _) h.1, fun i hi => vk_R.same hv (h.2.1 i hi), va_Z.moved (u := u) (U := U) (by rw [hv]; exact Vm.Alike.refl _) h.2.2.1, va_Zq.moved (u := u) (U := U) (by rw [hv]; exact Vm.Alike.refl _) h.2.2.2.1, fun q hq => va_Nw.same rfl hv.symm (h.2.2.2.2 q hq)⟩
theorem SE.kept {w : WE} {U : State} {H H1 : Heap} (h : SE w U H) (hq : ∀ a : Nat, a < H.size → ¬ AW w a → H1[a]? = H[a]?) : SE w U H1 :=
  ⟨h.1.kept hq, h.2.1, h.2.2.1.kept hq, h.2.2.2.1.kept hq, h.2.2.2.2⟩
def WD (w : WE) (M : Mem) (U : State) : Prop := va_P (wD w) vwCl (wsW w M) U.heap ∧ va_K (wD w) vwCl (tysW w) U ∧ va_D (fun _ => True) (wsW w M) ∧ SE w U U.heap
/-- behind a method -/
def WB (w : WE) (M : Mem) (U : State) : Prop := va_P (wD w) vwCl (wsW w M) U.heap ∧ va_D (fun _ => True) (wsW w M)
abbrev wz (y : MethodName) (b : ByteArray) (n : Nat) (ret : Option FieldType) : List Cond := Cond.code y b n ret :: BIG
theorem big_good : BIG.all goodWord = true := List.all_eq_true.mpr (fun _ h => (List.mem_filter.mp h).2)
theorem gd_1 {c : Cond} (h : c ∈ BIG) : c ∈ BIG ∧ ((c.onTables && c.keeps) = true ∨ ∃ ty, c = .arrayClass ty) := ⟨h, good_of_word (List.all_eq_true.mp big_good c h)⟩
theorem gd_z {y : MethodName} {b : ByteArray} {n : Nat} {ret : Option FieldType} (h5 : Cond.code y b n ret ∈ BIG) : GoodIn BIG (wz y b n ret) := fun w h => by
  rcases List.mem_cons.mp h with rfl | h
  · exact gd_1 h5
  · exact gd_1 h
theorem gd_v {own Cn : String} {idx : Nat} {y : MethodName} {b : ByteArray} {n : Nat} {ret : Option FieldType} (h1 : Cond.methodLink own idx y ∈ BIG) (h2 : Cond.instanceMethod y ∈ BIG) (h3 : Cond.selects Cn y y ∈ BIG) (h4 : Cond.initialized Cn ∈ BIG) (h5 : Cond.code y b n ret ∈ BIG) : GoodIn BIG (wsV own idx Cn y (wz y b n ret)) := fun w h => by
  rcases List.mem_append.mp h with h | h
  · simp only [List.mem_cons, List.not_mem_nil, or_false] at h
    rcases h with rfl | rfl | rfl | rfl
    · exact gd_1 h1
    · exact gd_1 h2
    · exact gd_1 h3
    · exact gd_1 h4
  · exact gd_z h5 w h
theorem gd_s {own : String} {idx : Nat} {y : MethodName} {b : ByteArray} {n : Nat} {ret : Option FieldType} (h1 : Cond.methodLink own idx y ∈ BIG) (h2 : Cond.static y ∈ BIG) (h4 : Cond.initialized y.cls ∈ BIG) (h5 : Cond.code y b n ret ∈ BIG) : GoodIn BIG (va_wsS own idx y (wz y b n ret)) := fun w h => by
  rcases List.mem_append.mp h with h | h
  · simp only [List.mem_cons, List.not_mem_nil, or_false] at h
    rcases h with rfl | rfl | rfl
    · exact gd_1 h1
    · exact gd_1 h2
    · exact gd_1 h4
  · exact gd_z h5 w h
/-! ===== the judgement: what is left to be done, as a program over the memory, and the machine ===== -/
abbrev Res : Type := Int32 × Mem
abbrev GT : Type := Program × Launch × Env × Room × State × MethodId × Array Value × List Frame × Method × Code × Nat × Nat × (State → Prop) × (Nat → Prop) × Nat × Res
def gl (g : GT) : Launch := g.2.1
def WH (w : WE) (A : Nat → Prop) (s : State) (M : Mem) (H : Heap) (locs : List Loc) : Prop := va_P (wD w) vwCl (wsW w M) H ∧ va_D A (wsW w M) ∧ va_S A s.heap H locs
def J (w : WE) (g : GT) (E : Option Res) (M : Mem) (pc : Nat) (lv : List (Nat × Value)) (st : List Value) : Prop :=
  match g with
  | (p, l, e, R, s, m, args, below, meth, c, ce, sl, Q, A, nL, res) => ∀ (H : Heap) (locs : List Loc) (ls : Array Slot), WH w A s M H locs → lv_has ls nL lv → E = some res → W p l e R s m args below meth c H locs ce sl Q (F0 m pc ls st)
def CT (w : WE) (g : GT) (own : String) (cc : ByteArray) (rm : Room) (n : Nat) : Prop :=
  match g with
  | (p, _, _, R, s, m, args, _, _, c, ce, sl, _, A, nL, _) => p.tables.exec = Jvm.exec ∧ c.code = cc ∧ c.maxLocals = nL ∧ s.vm.findClass own = some m.cls ∧ (∀ x ∈ BIG, x.before args s = true) ∧ va_K (wD w) vwCl (tysW w) s ∧ SE w s s.heap ∧ R = rm ∧ ce ≤ R.cells ∧ sl ≤ R.slots ∧ (∀ q, AW w q → A q) ∧ (∀ q, q < s.heap.size → A q → AW w q) ∧ nL = n
def RTi (w : WE) (g : GT) (cc : ByteArray) (ty : FieldType) : Prop :=
  match g with
  | (p, l, e, R, s, m, args, below, meth, c, ce, sl, Q, A, _, res) => ∀ (H : Heap) (locs : List Loc) (ls : Array Slot) (M : Mem) (x : Int32) (pc : Nat), WH w A s M H locs → (x, M) = res → decode cc pc = .ok (.ireturn, 1) → narrow ty (.int x) = .int x → W p l e R s m args below meth c H locs ce sl Q (F0 m pc ls [.int x])
def RTv (w : WE) (g : GT) (cc : ByteArray) : Prop :=
  match g with
  | (p, l, e, R, s, m, args, below, meth, c, ce, sl, Q, A, _, res) => ∀ (H : Heap) (locs : List Loc) (ls : Array Slot) (M : Mem) (pc : Nat), WH w A s M H locs → M = res.2 → decode cc pc = .ok (.return_, 1) → W p l e R s m args below meth c H locs ce sl Q (F0 m pc ls [])
/-- a method's contract: where its program over the memory comes to an end, it returns so -/
def MC (l : Launch) (w : WE) (y : MethodName) (ws : List Cond) (rm : Room) (As : List Value) (E : Option Res) (M : Mem) : Prop := ∀ res : Res, E = some res → Met l y ws rm (va_Pc As (fun U => WD w M U)) (va_Qi (fun (r : Int32) (M' : Mem) => (r, M') = res) (fun M' t => WB w M' t) (AW w)) 0 0 (AW w)
def MV (l : Launch) (w : WE) (y : MethodName) (ws : List Cond) (rm : Room) (As : List Value) (E : Option Res) (M : Mem) : Prop := ∀ res : Res, E = some res → Met l y ws rm (va_Pc As (fun U => WD w M U)) (va_Qv (fun M' : Mem => M' = res.2) (fun M' t => WB w M' t) (AW w)) 0 0 (AW w)

section JR
variable {w : WE} {g : GT} {own : String} {cc : ByteArray} {rm : Room} {n : Nat} {E E1 E2 : Option Res} {M : Mem} {pc : Nat} {lv lv' : List (Nat × Value)} {st : List Value}

theorem J_iconst (C : CT w g own cc rm n) {i : Int} {v : Int32} (hdg : decode cc pc = .ok (.iconst i, 1)) (hv : Int32.ofInt i = v) (k : J w g E M (pc + 1) lv (.int v :: st)) : J w g E M pc lv st := by
  obtain ⟨p, l, e, R, s, m, args, below, meth, c, ce, sl, Q, A, nL, res⟩ := g
  obtain ⟨hx, hb, hml, hown, hts, hK, hSE, hR, hce, hsl, hA, hA2, hn⟩ := C
  intro H locs ls hW hl hE
  exact lv_iconst hx hb hdg hv (k H locs ls hW hl hE)

theorem J_bipush (C : CT w g own cc rm n) {i : Int} {v : Int32} (hdg : decode cc pc = .ok (.bipush i, 2)) (hv : (Int8.ofInt i).toInt32 = v) (k : J w g E M (pc + 2) lv (.int v :: st)) : J w g E M pc lv st := by
  obtain ⟨p, l, e, R, s, m, args, below, meth, c, ce, sl, Q, A, nL, res⟩ := g
  obtain ⟨hx, hb, hml, hown, hts, hK, hSE, hR, hce, hsl, hA, hA2, hn⟩ := C
  intro H locs ls hW hl hE
  exact lv_bipush hx hb hdg hv (k H locs ls hW hl hE)

theorem J_sipush (C : CT w g own cc rm n) {i : Int} {v : Int32} (hdg : decode cc pc = .ok (.sipush i, 3)) (hv : (Int16.ofInt i).toInt32 = v) (k : J w g E M (pc + 3) lv (.int v :: st)) : J w g E M pc lv st := by
  obtain ⟨p, l, e, R, s, m, args, below, meth, c, ce, sl, Q, A, nL, res⟩ := g
  obtain ⟨hx, hb, hml, hown, hts, hK, hSE, hR, hce, hsl, hA, hA2, hn⟩ := C
  intro H locs ls hW hl hE
  exact lv_sipush hx hb hdg hv (k H locs ls hW hl hE)

theorem J_ldc (C : CT w g own cc rm n) {i : Nat} {v : Int32} (hc : Jvm.Cond.constant own i v ∈ BIG) (hdg : decode cc pc = .ok (.ldc i, 2)) (k : J w g E M (pc + 2) lv (.int v :: st)) : J w g E M pc lv st := by
  obtain ⟨p, l, e, R, s, m, args, below, meth, c, ce, sl, Q, A, nL, res⟩ := g
  obtain ⟨hx, hb, hml, hown, hts, hK, hSE, hR, hce, hsl, hA, hA2, hn⟩ := C
  intro H locs ls hW hl hE
  exact lv_ldc hx hb hown (hts _ hc) hdg (k H locs ls hW hl hE)

theorem J_ldc2 (C : CT w g own cc rm n) {i : Nat} {v : Int64} (hc : Jvm.Cond.constantLong own i v ∈ BIG) (hdg : decode cc pc = .ok (.ldc2_w i, 3)) (k : J w g E M (pc + 3) lv (.long v :: st)) : J w g E M pc lv st := by
  obtain ⟨p, l, e, R, s, m, args, below, meth, c, ce, sl, Q, A, nL, res⟩ := g
  obtain ⟨hx, hb, hml, hown, hts, hK, hSE, hR, hce, hsl, hA, hA2, hn⟩ := C
  intro H locs ls hW hl hE
  exact lv_ldc2 hx hb hown (hts _ hc) hdg (k H locs ls hW hl hE)

theorem J_iload_n (C : CT w g own cc rm n) {k4 : Fin 4} {i : Nat} {x : Int32} (hdg : decode cc pc = .ok (.iload_n k4, 1)) (hi : (k4 : Nat) = i) (q : Nat) (hq : lv[q]? = some (i, .int x)) (k : J w g E M (pc + 1) lv (.int x :: st)) : J w g E M pc lv st := by
  obtain ⟨p, l, e, R, s, m, args, below, meth, c, ce, sl, Q, A, nL, res⟩ := g
  obtain ⟨hx, hb, hml, hown, hts, hK, hSE, hR, hce, hsl, hA, hA2, hn⟩ := C
  intro H locs ls hW hl hE
  exact lv_iload_n hx hb hdg hi (lv_at hl q hq) (k H locs ls hW hl hE)

theorem J_iload (C : CT w g own cc rm n) {i : Nat} {x : Int32} (hdg : decode cc pc = .ok (.iload i, 2)) (q : Nat) (hq : lv[q]? = some (i, .int x)) (k : J w g E M (pc + 2) lv (.int x :: st)) : J w g E M pc lv st := by
  obtain ⟨p, l, e, R, s, m, args, below, meth, c, ce, sl, Q, A, nL, res⟩ := g
  obtain ⟨hx, hb, hml, hown, hts, hK, hSE, hR, hce, hsl, hA, hA2, hn⟩ := C
  intro H locs ls hW hl hE
  exact lv_iload hx hb hdg (lv_at hl q hq) (k H locs ls hW hl hE)

theorem J_lload_n (C : CT w g own cc rm n) {k4 : Fin 4} {i : Nat} {x : Int64} (hdg : decode cc pc = .ok (.lload_n k4, 1)) (hi : (k4 : Nat) = i) (q : Nat) (hq : lv[q]? = some (i, .long x)) (k : J w g E M (pc + 1) lv (.long x :: st)) : J w g E M pc lv st := by
  obtain ⟨p, l, e, R, s, m, args, below, meth, c, ce, sl, Q, A, nL, res⟩ := g
  obtain ⟨hx, hb, hml, hown, hts, hK, hSE, hR, hce, hsl, hA, hA2, hn⟩ := C
  intro H locs ls hW hl hE
  exact lv_lload_n hx hb hdg hi (lv_at hl q hq) (k H locs ls hW hl hE)

theorem J_aload_n (C : CT w g own cc rm n) {k4 : Fin 4} {i : Nat} {x : Nat} (hdg : decode cc pc = .ok (.aload_n k4, 1)) (hi : (k4 : Nat) = i) (q : Nat) (hq : lv[q]? = some (i, .ref x)) (k : J w g E M (pc + 1) lv (.ref x :: st)) : J w g E M pc lv st := by
  obtain ⟨p, l, e, R, s, m, args, below, meth, c, ce, sl, Q, A, nL, res⟩ := g
  obtain ⟨hx, hb, hml, hown, hts, hK, hSE, hR, hce, hsl, hA, hA2, hn⟩ := C
  intro H locs ls hW hl hE
  exact lv_aload_n hx hb hdg hi (lv_at hl q hq) (k H locs ls hW hl hE)

theorem J_aload (C : CT w g own cc rm n) {i : Nat} {x : Nat} (hdg : decode cc pc = .ok (.aload i, 2)) (q : Nat) (hq : lv[q]? = some (i, .ref x)) (k : J w g E M (pc + 2) lv (.ref x :: st)) : J w g E M pc lv st := by
  obtain ⟨p, l, e, R, s, m, args, below, meth, c, ce, sl, Q, A, nL, res⟩ := g
  obtain ⟨hx, hb, hml, hown, hts, hK, hSE, hR, hce, hsl, hA, hA2, hn⟩ := C
  intro H locs ls hW hl hE
  exact lv_aload hx hb hdg (lv_at hl q hq) (k H locs ls hW hl hE)

theorem J_istore_n (C : CT w g own cc rm n) {k4 : Fin 4} {i : Nat} {x : Int32} (hdg : decode cc pc = .ok (.istore_n k4, 1)) (hi : (k4 : Nat) = i) (hin : i < n) (hlv : (i, Value.int x) :: lv.filter (fun q => !(q.1 == i) && !(q.1 + 1 == i && q.2.category == 2)) = lv') (k : J w g E M (pc + 1) lv' st) : J w g E M pc lv (.int x :: st) := by
  obtain ⟨p, l, e, R, s, m, args, below, meth, c, ce, sl, Q, A, nL, res⟩ := g
  obtain ⟨hx, hb, hml, hown, hts, hK, hSE, hR, hce, hsl, hA, hA2, hn⟩ := C
  intro H locs ls hW hl hE
  exact lv_istore_n hx hb hdg hi hl (by rw [hn]; exact hin) hlv (fun ls' hl' => k H locs ls' hW hl' hE)

theorem J_istore (C : CT w g own cc rm n) {i : Nat} {x : Int32} (hdg : decode cc pc = .ok (.istore i, 2)) (hin : i < n) (hlv : (i, Value.int x) :: lv.filter (fun q => !(q.1 == i) && !(q.1 + 1 == i && q.2.category == 2)) = lv') (k : J w g E M (pc + 2) lv' st) : J w g E M pc lv (.int x :: st) := by
  obtain ⟨p, l, e, R, s, m, args, below, meth, c, ce, sl, Q, A, nL, res⟩ := g
  obtain ⟨hx, hb, hml, hown, hts, hK, hSE, hR, hce, hsl, hA, hA2, hn⟩ := C
  intro H locs ls hW hl hE
  exact lv_istore hx hb hdg hl (by rw [hn]; exact hin) hlv (fun ls' hl' => k H locs ls' hW hl' hE)

theorem J_astore_n (C : CT w g own cc rm n) {k4 : Fin 4} {i : Nat} {x : Nat} (hdg : decode cc pc = .ok (.astore_n k4, 1)) (hi : (k4 : Nat) = i) (hin : i < n) (hlv : (i, Value.ref x) :: lv.filter (fun q => !(q.1 == i) && !(q.1 + 1 == i && q.2.category == 2)) = lv') (k : J w g E M (pc + 1) lv' st) : J w g E M pc lv (.ref x :: st) := by
  obtain ⟨p, l, e, R, s, m, args, below, meth, c, ce, sl, Q, A, nL, res⟩ := g
  obtain ⟨hx, hb, hml, hown, hts, hK, hSE, hR, hce, hsl, hA, hA2, hn⟩ := C
  intro H locs ls hW hl hE
  exact lv_astore_n hx hb hdg hi hl (by rw [hn]; exact hin) hlv (fun ls' hl' => k H locs ls' hW hl' hE)

theorem J_astore (C : CT w g own cc rm n) {i : Nat} {x : Nat} (hdg : decode cc pc = .ok (.astore i, 2)) (hin : i < n) (hlv : (i, Value.ref x) :: lv.filter (fun q => !(q.1 == i) && !(q.1 + 1 == i && q.2.category == 2)) = lv') (k : J w g E M (pc + 2) lv' st) : J w g E M pc lv (.ref x :: st) := by
  obtain ⟨p, l, e, R, s, m, args, below, meth, c, ce, sl, Q, A, nL, res⟩ := g
  obtain ⟨hx, hb, hml, hown, hts, hK, hSE, hR, hce, hsl, hA, hA2, hn⟩ := C
  intro H locs ls hW hl hE
  exact lv_astore hx hb hdg hl (by rw [hn]; exact hin) hlv (fun ls' hl' => k H locs ls' hW hl' hE)

theorem J_iinc (C : CT w g own cc rm n) {i q : Nat} {d : Int} {x X : Int32} {F : Int32 → Option Res} {lw : Int32 → List (Nat × Value)} (hdg : decode cc pc = .ok (.iinc i d, 3)) (hq : lv[q]? = some (i, .int x)) (hv : x + Int32.ofInt d = X) (hin : i < n) (hlv : ∀ v : Int32, (i, Value.int v) :: lv.filter (fun q => !(q.1 == i) && !(q.1 + 1 == i && q.2.category == 2)) = lw v) (k : ∀ v : Int32, J w g (F v) M (pc + 3) (lw v) st) : J w g (ilet X F) M pc lv st := by
  obtain ⟨p, l, e, R, s, m, args, below, meth, c, ce, sl, Q, A, nL, res⟩ := g
  obtain ⟨hx, hb, hml, hown, hts, hK, hSE, hR, hce, hsl, hA, hA2, hn⟩ := C
  intro H locs ls hW hl hE
  exact lv_iinc hx hb hdg hl hq hv (by rw [hn]; exact hin) (hlv X) (fun ls' hl' => k X H locs ls' hW hl' hE)

theorem J_iadd (C : CT w g own cc rm n) {x y : Int32} (hdg : decode cc pc = .ok (.iadd, 1)) (k : J w g E M (pc + 1) lv (.int (x + y) :: st)) : J w g E M pc lv (.int y :: .int x :: st) := by
  obtain ⟨p, l, e, R, s, m, args, below, meth, c, ce, sl, Q, A, nL, res⟩ := g
  obtain ⟨hx, hb, hml, hown, hts, hK, hSE, hR, hce, hsl, hA, hA2, hn⟩ := C
  intro H locs ls hW hl hE
  exact lv_iadd hx hb hdg (k H locs ls hW hl hE)

theorem J_isub (C : CT w g own cc rm n) {x y : Int32} (hdg : decode cc pc = .ok (.isub, 1)) (k : J w g E M (pc + 1) lv (.int (x - y) :: st)) : J w g E M pc lv (.int y :: .int x :: st) := by
  obtain ⟨p, l, e, R, s, m, args, below, meth, c, ce, sl, Q, A, nL, res⟩ := g
  obtain ⟨hx, hb, hml, hown, hts, hK, hSE, hR, hce, hsl, hA, hA2, hn⟩ := C
  intro H locs ls hW hl hE
  exact lv_isub hx hb hdg (k H locs ls hW hl hE)

theorem J_imul (C : CT w g own cc rm n) {x y : Int32} (hdg : decode cc pc = .ok (.imul, 1)) (k : J w g E M (pc + 1) lv (.int (x * y) :: st)) : J w g E M pc lv (.int y :: .int x :: st) := by
  obtain ⟨p, l, e, R, s, m, args, below, meth, c, ce, sl, Q, A, nL, res⟩ := g
  obtain ⟨hx, hb, hml, hown, hts, hK, hSE, hR, hce, hsl, hA, hA2, hn⟩ := C
  intro H locs ls hW hl hE
  exact lv_imul hx hb hdg (k H locs ls hW hl hE)

theorem J_iand (C : CT w g own cc rm n) {x y : Int32} (hdg : decode cc pc = .ok (.iand, 1)) (k : J w g E M (pc + 1) lv (.int (x &&& y) :: st)) : J w g E M pc lv (.int y :: .int x :: st) := by
  obtain ⟨p, l, e, R, s, m, args, below, meth, c, ce, sl, Q, A, nL, res⟩ := g
  obtain ⟨hx, hb, hml, hown, hts, hK, hSE, hR, hce, hsl, hA, hA2, hn⟩ := C
  intro H locs ls hW hl hE
  exact lv_iand hx hb hdg (k H locs ls hW hl hE)

theorem J_ior (C : CT w g own cc rm n) {x y : Int32} (hdg : decode cc pc = .ok (.ior, 1)) (k : J w g E M (pc + 1) lv (.int (x ||| y) :: st)) : J w g E M pc lv (.int y :: .int x :: st) := by
  obtain ⟨p, l, e, R, s, m, args, below, meth, c, ce, sl, Q, A, nL, res⟩ := g
  obtain ⟨hx, hb, hml, hown, hts, hK, hSE, hR, hce, hsl, hA, hA2, hn⟩ := C
  intro H locs ls hW hl hE
  exact lv_ior hx hb hdg (k H locs ls hW hl hE)

theorem J_ishl (C : CT w g own cc rm n) {x y : Int32} (hdg : decode cc pc = .ok (.ishl, 1)) (k : J w g E M (pc + 1) lv (.int (x <<< (y &&& 31)) :: st)) : J w g E M pc lv (.int y :: .int x :: st) := by
  obtain ⟨p, l, e, R, s, m, args, below, meth, c, ce, sl, Q, A, nL, res⟩ := g
  obtain ⟨hx, hb, hml, hown, hts, hK, hSE, hR, hce, hsl, hA, hA2, hn⟩ := C
  intro H locs ls hW hl hE
  exact lv_ishl hx hb hdg (k H locs ls hW hl hE)

theorem J_ishr (C : CT w g own cc rm n) {x y : Int32} (hdg : decode cc pc = .ok (.ishr, 1)) (k : J w g E M (pc + 1) lv (.int (x >>> (y &&& 31)) :: st)) : J w g E M pc lv (.int y :: .int x :: st) := by
  obtain ⟨p, l, e, R, s, m, args, below, meth, c, ce, sl, Q, A, nL, res⟩ := g
  obtain ⟨hx, hb, hml, hown, hts, hK, hSE, hR, hce, hsl, hA, hA2, hn⟩ := C
  intro H locs ls hW hl hE
  exact lv_ishr hx hb hdg (k H locs ls hW hl hE)

theorem J_land (C : CT w g own cc rm n) {x y : Int64} (hdg : decode cc pc = .ok (.land, 1)) (k : J w g E M (pc + 1) lv (.long (x &&& y) :: st)) : J w g E M pc lv (.long y :: .long x :: st) := by
  obtain ⟨p, l, e, R, s, m, args, below, meth, c, ce, sl, Q, A, nL, res⟩ := g
  obtain ⟨hx, hb, hml, hown, hts, hK, hSE, hR, hce, hsl, hA, hA2, hn⟩ := C
  intro H locs ls hW hl hE
  exact lv_land hx hb hdg (k H locs ls hW hl hE)

theorem J_lor (C : CT w g own cc rm n) {x y : Int64} (hdg : decode cc pc = .ok (.lor, 1)) (k : J w g E M (pc + 1) lv (.long (x ||| y) :: st)) : J w g E M pc lv (.long y :: .long x :: st) := by
  obtain ⟨p, l, e, R, s, m, args, below, meth, c, ce, sl, Q, A, nL, res⟩ := g
  obtain ⟨hx, hb, hml, hown, hts, hK, hSE, hR, hce, hsl, hA, hA2, hn⟩ := C
  intro H locs ls hW hl hE
  exact lv_lor hx hb hdg (k H locs ls hW hl hE)

theorem J_lushr (C : CT w g own cc rm n) {x : Int64} {y : Int32} (hdg : decode cc pc = .ok (.lushr, 1)) (k : J w g E M (pc + 1) lv (.long (x.toUInt64 >>> (y.toInt64.toUInt64 &&& Int64.toUInt64 63)).toInt64 :: st)) : J w g E M pc lv (.int y :: .long x :: st) := by
  obtain ⟨p, l, e, R, s, m, args, below, meth, c, ce, sl, Q, A, nL, res⟩ := g
  obtain ⟨hx, hb, hml, hown, hts, hK, hSE, hR, hce, hsl, hA, hA2, hn⟩ := C
  intro H locs ls hW hl hE
  exact lv_lushr hx hb hdg rfl (k H locs ls hW hl hE)

theorem J_lshl (C : CT w g own cc rm n) {x : Int64} {y : Int32} (hdg : decode cc pc = .ok (.lshl, 1)) (k : J w g E M (pc + 1) lv (.long (x <<< (y.toInt64 &&& 63)) :: st)) : J w g E M pc lv (.int y :: .long x :: st) := by
  obtain ⟨p, l, e, R, s, m, args, below, meth, c, ce, sl, Q, A, nL, res⟩ := g
  obtain ⟨hx, hb, hml, hown, hts, hK, hSE, hR, hce, hsl, hA, hA2, hn⟩ := C
  intro H locs ls hW hl hE
  exact lv_lshl hx hb hdg rfl (k H locs ls hW hl hE)

theorem J_lshr (C : CT w g own cc rm n) {x : Int64} {y : Int32} (hdg : decode cc pc = .ok (.lshr, 1)) (k : J w g E M (pc + 1) lv (.long (x >>> (y.toInt64 &&& 63)) :: st)) : J w g E M pc lv (.int y :: .long x :: st) := by
  obtain ⟨p, l, e, R, s, m, args, below, meth, c, ce, sl, Q, A, nL, res⟩ := g
  obtain ⟨hx, hb, hml, hown, hts, hK, hSE, hR, hce, hsl, hA, hA2, hn⟩ := C
  intro H locs ls hW hl hE
  exact lv_lshr hx hb hdg rfl (k H locs ls hW hl hE)

theorem J_ineg (C : CT w g own cc rm n) {x : Int32} (hdg : decode cc pc = .ok (.ineg, 1)) (k : J w g E M (pc + 1) lv (.int (-x) :: st)) : J w g E M pc lv (.int x :: st) := by
  obtain ⟨p, l, e, R, s, m, args, below, meth, c, ce, sl, Q, A, nL, res⟩ := g
  obtain ⟨hx, hb, hml, hown, hts, hK, hSE, hR, hce, hsl, hA, hA2, hn⟩ := C
  intro H locs ls hW hl hE
  exact lv_ineg hx hb hdg (k H locs ls hW hl hE)

theorem J_i2l (C : CT w g own cc rm n) {x : Int32} (hdg : decode cc pc = .ok (.i2l, 1)) (k : J w g E M (pc + 1) lv (.long x.toInt64 :: st)) : J w g E M pc lv (.int x :: st) := by
  obtain ⟨p, l, e, R, s, m, args, below, meth, c, ce, sl, Q, A, nL, res⟩ := g
  obtain ⟨hx, hb, hml, hown, hts, hK, hSE, hR, hce, hsl, hA, hA2, hn⟩ := C
  intro H locs ls hW hl hE
  exact lv_i2l hx hb hdg rfl (k H locs ls hW hl hE)

theorem J_l2i (C : CT w g own cc rm n) {x : Int64} (hdg : decode cc pc = .ok (.l2i, 1)) (k : J w g E M (pc + 1) lv (.int x.toInt32 :: st)) : J w g E M pc lv (.long x :: st) := by
  obtain ⟨p, l, e, R, s, m, args, below, meth, c, ce, sl, Q, A, nL, res⟩ := g
  obtain ⟨hx, hb, hml, hown, hts, hK, hSE, hR, hce, hsl, hA, hA2, hn⟩ := C
  intro H locs ls hW hl hE
  exact lv_l2i hx hb hdg rfl (k H locs ls hW hl hE)

theorem J_i2b (C : CT w g own cc rm n) {x : Int32} (hdg : decode cc pc = .ok (.i2b, 1)) (k : J w g E M (pc + 1) lv (.int x.toInt8.toInt32 :: st)) : J w g E M pc lv (.int x :: st) := by
  obtain ⟨p, l, e, R, s, m, args, below, meth, c, ce, sl, Q, A, nL, res⟩ := g
  obtain ⟨hx, hb, hml, hown, hts, hK, hSE, hR, hce, hsl, hA, hA2, hn⟩ := C
  intro H locs ls hW hl hE
  exact lv_i2b hx hb hdg rfl (k H locs ls hW hl hE)

theorem J_dup (C : CT w g own cc rm n) {va : Value} (hva : va.category = 1) (hdg : decode cc pc = .ok (.dup, 1)) (k : J w g E M (pc + 1) lv (va :: va :: st)) : J w g E M pc lv (va :: st) := by
  obtain ⟨p, l, e, R, s, m, args, below, meth, c, ce, sl, Q, A, nL, res⟩ := g
  obtain ⟨hx, hb, hml, hown, hts, hK, hSE, hR, hce, hsl, hA, hA2, hn⟩ := C
  intro H locs ls hW hl hE
  exact lv_dup hx hb hdg hva (k H locs ls hW hl hE)

theorem J_pop (C : CT w g own cc rm n) {va : Value} (hva : va.category = 1) (hdg : decode cc pc = .ok (.pop, 1)) (k : J w g E M (pc + 1) lv st) : J w g E M pc lv (va :: st) := by
  obtain ⟨p, l, e, R, s, m, args, below, meth, c, ce, sl, Q, A, nL, res⟩ := g
  obtain ⟨hx, hb, hml, hown, hts, hK, hSE, hR, hce, hsl, hA, hA2, hn⟩ := C
  intro H locs ls hW hl hE
  exact lv_pop hx hb hdg hva (k H locs ls hW hl hE)

theorem J_dup2 (C : CT w g own cc rm n) {va vb : Value} (hva : va.category = 1) (hvb : vb.category = 1) (hdg : decode cc pc = .ok (.dup2, 1)) (k : J w g E M (pc + 1) lv (va :: vb :: va :: vb :: st)) : J w g E M pc lv (va :: vb :: st) := by
  obtain ⟨p, l, e, R, s, m, args, below, meth, c, ce, sl, Q, A, nL, res⟩ := g
  obtain ⟨hx, hb, hml, hown, hts, hK, hSE, hR, hce, hsl, hA, hA2, hn⟩ := C
  intro H locs ls hW hl hE
  exact lv_dup2_11 hx hb hdg hva hvb (k H locs ls hW hl hE)

theorem J_goto (C : CT w g own cc rm n) {off : Int} {tgt : Nat} (hdg : decode cc pc = .ok (.goto off, 3)) (ht : (pc : Int) + off = (tgt : Int)) (k : J w g E M tgt lv st) : J w g E M pc lv st := by
  obtain ⟨p, l, e, R, s, m, args, below, meth, c, ce, sl, Q, A, nL, res⟩ := g
  obtain ⟨hx, hb, hml, hown, hts, hK, hSE, hR, hce, hsl, hA, hA2, hn⟩ := C
  intro H locs ls hW hl hE
  exact lv_goto hx hb hdg ht (k H locs ls hW hl hE)

theorem J_idiv_c (C : CT w g own cc rm n) {x y : Int32} (hne : ¬ y = 0) (hdg : decode cc pc = .ok (.idiv, 1)) (k : J w g E M (pc + 1) lv (.int (x / y) :: st)) : J w g E M pc lv (.int y :: .int x :: st) := by
  obtain ⟨p, l, e, R, s, m, args, below, meth, c, ce, sl, Q, A, nL, res⟩ := g
  obtain ⟨hx, hb, hml, hown, hts, hK, hSE, hR, hce, hsl, hA, hA2, hn⟩ := C
  intro H locs ls hW hl hE
  exact lv_idiv hx hb hdg hne (k H locs ls hW hl hE)

theorem J_idiv (C : CT w g own cc rm n) {x y : Int32} (hdg : decode cc pc = .ok (.idiv, 1)) (k : J w g E M (pc + 1) lv (.int (x / y) :: st)) : J w g (if y = 0 then none else E) M pc lv (.int y :: .int x :: st) := by
  obtain ⟨p, l, e, R, s, m, args, below, meth, c, ce, sl, Q, A, nL, res⟩ := g
  obtain ⟨hx, hb, hml, hown, hts, hK, hSE, hR, hce, hsl, hA, hA2, hn⟩ := C
  intro H locs ls hW hl hE
  by_cases hy : y = 0
  · rw [if_pos hy] at hE; cases hE
  · rw [if_neg hy] at hE
    exact lv_idiv hx hb hdg hy (k H locs ls hW hl hE)

theorem J_irem_c (C : CT w g own cc rm n) {x y : Int32} (hne : ¬ y = 0) (hdg : decode cc pc = .ok (.irem, 1)) (k : J w g E M (pc + 1) lv (.int (x - x / y * y) :: st)) : J w g E M pc lv (.int y :: .int x :: st) := by
  obtain ⟨p, l, e, R, s, m, args, below, meth, c, ce, sl, Q, A, nL, res⟩ := g
  obtain ⟨hx, hb, hml, hown, hts, hK, hSE, hR, hce, hsl, hA, hA2, hn⟩ := C
  intro H locs ls hW hl hE
  exact lv_irem hx hb hdg hne (k H locs ls hW hl hE)

theorem J_irem (C : CT w g own cc rm n) {x y : Int32} (hdg : decode cc pc = .ok (.irem, 1)) (k : J w g E M (pc + 1) lv (.int (x - x / y * y) :: st)) : J w g (if y = 0 then none else E) M pc lv (.int y :: .int x :: st) := by
  obtain ⟨p, l, e, R, s, m, args, below, meth, c, ce, sl, Q, A, nL, res⟩ := g
  obtain ⟨hx, hb, hml, hown, hts, hK, hSE, hR, hce, hsl, hA, hA2, hn⟩ := C
  intro H locs ls hW hl hE
  by_cases hy : y = 0
  · rw [if_pos hy] at hE; cases hE
  · rw [if_neg hy] at hE
    exact lv_irem hx hb hdg hy (k H locs ls hW hl hE)

theorem J_if_eq (C : CT w g own cc rm n) {x : Int32} {off : Int} {tgt : Nat} (hdg : decode cc pc = .ok (.ifCond .eq off, 3)) (ht : (pc : Int) + off = (tgt : Int)) (k1 : x = 0 → J w g E1 M tgt lv st) (k2 : ¬ (x = 0) → J w g E2 M (pc + 3) lv st) : J w g (if x = 0 then E1 else E2) M pc lv (.int x :: st) := by
  obtain ⟨p, l, e, R, s, m, args, below, meth, c, ce, sl, Q, A, nL, res⟩ := g
  obtain ⟨hx, hb, hml, hown, hts, hK, hSE, hR, hce, hsl, hA, hA2, hn⟩ := C
  intro H locs ls hW hl hE
  refine lv_if_eq hx hb hdg ht (fun h => ?_) (fun h => ?_)
  · rw [if_pos h] at hE; exact k1 h H locs ls hW hl hE
  · rw [if_neg h] at hE; exact k2 h H locs ls hW hl hE

theorem J_if_ne (C : CT w g own cc rm n) {x : Int32} {off : Int} {tgt : Nat} (hdg : decode cc pc = .ok (.ifCond .ne off, 3)) (ht : (pc : Int) + off = (tgt : Int)) (k1 : ¬ (x = 0) → J w g E1 M tgt lv st) (k2 : x = 0 → J w g E2 M (pc + 3) lv st) : J w g (if x = 0 then E2 else E1) M pc lv (.int x :: st) := by
  obtain ⟨p, l, e, R, s, m, args, below, meth, c, ce, sl, Q, A, nL, res⟩ := g
  obtain ⟨hx, hb, hml, hown, hts, hK, hSE, hR, hce, hsl, hA, hA2, hn⟩ := C
  intro H locs ls hW hl hE
  refine lv_if_ne hx hb hdg ht (fun h => ?_) (fun h => ?_)
  · rw [if_neg h] at hE; exact k1 h H locs ls hW hl hE
  · rw [if_pos h] at hE; exact k2 h H locs ls hW hl hE

theorem J_if_lt (C : CT w g own cc rm n) {x : Int32} {off : Int} {tgt : Nat} (hdg : decode cc pc = .ok (.ifCond .lt off, 3)) (ht : (pc : Int) + off = (tgt : Int)) (k1 : x < 0 → J w g E1 M tgt lv st) (k2 : ¬ (x < 0) → J w g E2 M (pc + 3) lv st) : J w g (if x < 0 then E1 else E2) M pc lv (.int x :: st) := by
  obtain ⟨p, l, e, R, s, m, args, below, meth, c, ce, sl, Q, A, nL, res⟩ := g
  obtain ⟨hx, hb, hml, hown, hts, hK, hSE, hR, hce, hsl, hA, hA2, hn⟩ := C
  intro H locs ls hW hl hE
  refine lv_if_lt hx hb hdg ht (fun h => ?_) (fun h => ?_)
  · rw [if_pos h] at hE; exact k1 h H locs ls hW hl hE
  · rw [if_neg h] at hE; exact k2 h H locs ls hW hl hE

theorem J_if_ge (C : CT w g own cc rm n) {x : Int32} {off : Int} {tgt : Nat} (hdg : decode cc pc = .ok (.ifCond .ge off, 3)) (ht : (pc : Int) + off = (tgt : Int)) (k1 : 0 ≤ x → J w g E1 M tgt lv st) (k2 : ¬ (0 ≤ x) → J w g E2 M (pc + 3) lv st) : J w g (if 0 ≤ x then E1 else E2) M pc lv (.int x :: st) := by
  obtain ⟨p, l, e, R, s, m, args, below, meth, c, ce, sl, Q, A, nL, res⟩ := g
  obtain ⟨hx, hb, hml, hown, hts, hK, hSE, hR, hce, hsl, hA, hA2, hn⟩ := C
  intro H locs ls hW hl hE
  refine lv_if_ge hx hb hdg ht (fun h => ?_) (fun h => ?_)
  · rw [if_pos h] at hE; exact k1 h H locs ls hW hl hE
  · rw [if_neg h] at hE; exact k2 h H locs ls hW hl hE

theorem J_if_gt (C : CT w g own cc rm n) {x : Int32} {off : Int} {tgt : Nat} (hdg : decode cc pc = .ok (.ifCond .gt off, 3)) (ht : (pc : Int) + off = (tgt : Int)) (k1 : 0 < x → J w g E1 M tgt lv st) (k2 : ¬ (0 < x) → J w g E2 M (pc + 3) lv st) : J w g (if 0 < x then E1 else E2) M pc lv (.int x :: st) := by
  obtain ⟨p, l, e, R, s, m, args, below, meth, c, ce, sl, Q, A, nL, res⟩ := g
  obtain ⟨hx, hb, hml, hown, hts, hK, hSE, hR, hce, hsl, hA, hA2, hn⟩ := C
  intro H locs ls hW hl hE
  refine lv_if_gt hx hb hdg ht (fun h => ?_) (fun h => ?_)
  · rw [if_pos h] at hE; exact k1 h H locs ls hW hl hE
  · rw [if_neg h] at hE; exact k2 h H locs ls hW hl hE

theorem J_if_le (C : CT w g own cc rm n) {x : Int32} {off : Int} {tgt : Nat} (hdg : decode cc pc = .ok (.ifCond .le off, 3)) (ht : (pc : Int) + off = (tgt : Int)) (k1 : x ≤ 0 → J w g E1 M tgt lv st) (k2 : ¬ (x ≤ 0) → J w g E2 M (pc + 3) lv st) : J w g (if x ≤ 0 then E1 else E2) M pc lv (.int x :: st) := by
  obtain ⟨p, l, e, R, s, m, args, below, meth, c, ce, sl, Q, A, nL, res⟩ := g
  obtain ⟨hx, hb, hml, hown, hts, hK, hSE, hR, hce, hsl, hA, hA2, hn⟩ := C
  intro H locs ls hW hl hE
  refine lv_if_le hx hb hdg ht (fun h => ?_) (fun h => ?_)
  · rw [if_pos h] at hE; exact k1 h H locs ls hW hl hE
  · rw [if_neg h] at hE; exact k2 h H locs ls hW hl hE

theorem J_icmp_eq (C : CT w g own cc rm n) {x y : Int32} {off : Int} {tgt : Nat} (hdg : decode cc pc = .ok (.if_icmp .eq off, 3)) (ht : (pc : Int) + off = (tgt : Int)) (k1 : x = y → J w g E1 M tgt lv st) (k2 : ¬ (x = y) → J w g E2 M (pc + 3) lv st) : J w g (if x = y then E1 else E2) M pc lv (.int y :: .int x :: st) := by
  obtain ⟨p, l, e, R, s, m, args, below, meth, c, ce, sl, Q, A, nL, res⟩ := g
  obtain ⟨hx, hb, hml, hown, hts, hK, hSE, hR, hce, hsl, hA, hA2, hn⟩ := C
  intro H locs ls hW hl hE
  refine lv_icmp_eq hx hb hdg ht (fun h => ?_) (fun h => ?_)
  · rw [if_pos h] at hE; exact k1 h H locs ls hW hl hE
  · rw [if_neg h] at hE; exact k2 h H locs ls hW hl hE

theorem J_icmp_ne (C : CT w g own cc rm n) {x y : Int32} {off : Int} {tgt : Nat} (hdg : decode cc pc = .ok (.if_icmp .ne off, 3)) (ht : (pc : Int) + off = (tgt : Int)) (k1 : ¬ (x = y) → J w g E1 M tgt lv st) (k2 : x = y → J w g E2 M (pc + 3) lv st) : J w g (if x = y then E2 else E1) M pc lv (.int y :: .int x :: st) := by
  obtain ⟨p, l, e, R, s, m, args, below, meth, c, ce, sl, Q, A, nL, res⟩ := g
  obtain ⟨hx, hb, hml, hown, hts, hK, hSE, hR, hce, hsl, hA, hA2, hn⟩ := C
  intro H locs ls hW hl hE
  refine lv_icmp_ne hx hb hdg ht (fun h => ?_) (fun h => ?_)
  · rw [if_neg h] at hE; exact k1 h H locs ls hW hl hE
  · rw [if_pos h] at hE; exact k2 h H locs ls hW hl hE

theorem J_icmp_lt (C : CT w g own cc rm n) {x y : Int32} {off : Int} {tgt : Nat} (hdg : decode cc pc = .ok (.if_icmp .lt off, 3)) (ht : (pc : Int) + off = (tgt : Int)) (k1 : x < y → J w g E1 M tgt lv st) (k2 : ¬ (x < y) → J w g E2 M (pc + 3) lv st) : J w g (if x < y then E1 else E2) M pc lv (.int y :: .int x :: st) := by
  obtain ⟨p, l, e, R, s, m, args, below, meth, c, ce, sl, Q, A, nL, res⟩ := g
  obtain ⟨hx, hb, hml, hown, hts, hK, hSE, hR, hce, hsl, hA, hA2, hn⟩ := C
  intro H locs ls hW hl hE
  refine lv_icmp_lt hx hb hdg ht (fun h => ?_) (fun h => ?_)
  · rw [if_pos h] at hE; exact k1 h H locs ls hW hl hE
  · rw [if_neg h] at hE; exact k2 h H locs ls hW hl hE

theorem J_icmp_ge (C : CT w g own cc rm n) {x y : Int32} {off : Int} {tgt : Nat} (hdg : decode cc pc = .ok (.if_icmp .ge off, 3)) (ht : (pc : Int) + off = (tgt : Int)) (k1 : y ≤ x → J w g E1 M tgt lv st) (k2 : ¬ (y ≤ x) → J w g E2 M (pc + 3) lv st) : J w g (if y ≤ x then E1 else E2) M pc lv (.int y :: .int x :: st) := by
  obtain ⟨p, l, e, R, s, m, args, below, meth, c, ce, sl, Q, A, nL, res⟩ := g
  obtain ⟨hx, hb, hml, hown, hts, hK, hSE, hR, hce, hsl, hA, hA2, hn⟩ := C
  intro H locs ls hW hl hE
  refine lv_icmp_ge hx hb hdg ht (fun h => ?_) (fun h => ?_)
  · rw [if_pos h] at hE; exact k1 h H locs ls hW hl hE
  · rw [if_neg h] at hE; exact k2 h H locs ls hW hl hE

theorem J_icmp_gt (C : CT w g own cc rm n) {x y : Int32} {off : Int} {tgt : Nat} (hdg : decode cc pc = .ok (.if_icmp .gt off, 3)) (ht : (pc : Int) + off = (tgt : Int)) (k1 : y < x → J w g E1 M tgt lv st) (k2 : ¬ (y < x) → J w g E2 M (pc + 3) lv st) : J w g (if y < x then E1 else E2) M pc lv (.int y :: .int x :: st) := by
  obtain ⟨p, l, e, R, s, m, args, below, meth, c, ce, sl, Q, A, nL, res⟩ := g
  obtain ⟨hx, hb, hml, hown, hts, hK, hSE, hR, hce, hsl, hA, hA2, hn⟩ := C
  intro H locs ls hW hl hE
  refine lv_icmp_gt hx hb hdg ht (fun h => ?_) (fun h => ?_)
  · rw [if_pos h] at hE; exact k1 h H locs ls hW hl hE
  · rw [if_neg h] at hE; exact k2 h H locs ls hW hl hE

theorem J_icmp_le (C : CT w g own cc rm n) {x y : Int32} {off : Int} {tgt : Nat} (hdg : decode cc pc = .ok (.if_icmp .le off, 3)) (ht : (pc : Int) + off = (tgt : Int)) (k1 : x ≤ y → J w g E1 M tgt lv st) (k2 : ¬ (x ≤ y) → J w g E2 M (pc + 3) lv st) : J w g (if x ≤ y then E1 else E2) M pc lv (.int y :: .int x :: st) := by
  obtain ⟨p, l, e, R, s, m, args, below, meth, c, ce, sl, Q, A, nL, res⟩ := g
  obtain ⟨hx, hb, hml, hown, hts, hK, hSE, hR, hce, hsl, hA, hA2, hn⟩ := C
  intro H locs ls hW hl hE
  refine lv_icmp_le hx hb hdg ht (fun h => ?_) (fun h => ?_)
  · rw [if_pos h] at hE; exact k1 h H locs ls hW hl hE
  · rw [if_neg h] at hE; exact k2 h H locs ls hW hl hE

theorem J_ite {c : Prop} [Decidable c] (k1 : c → J w g E1 M pc lv st) (k2 : ¬ c → J w g E2 M pc lv st) : J w g (if c then E1 else E2) M pc lv st := by
  by_cases h : c
  · rw [if_pos h]; exact k1 h
  · rw [if_neg h]; exact k2 h
theorem J_mlet {F : Mem → Option Res} (k : ∀ M1, J w g (F M1) M1 pc lv st) : J w g (mlet M F) M pc lv st := k M
theorem J_ilet {F : Int32 → Option Res} {x : Int32} (k : ∀ y, J w g (F y) M pc lv (.int y :: st)) : J w g (ilet x F) M pc lv (.int x :: st) := k x
theorem J_none : J w g none M pc lv st := by
  obtain ⟨p, l, e, R, s, m, args, below, meth, c, ce, sl, Q, A, nL, res⟩ := g
  intro H locs ls hW hl hE
  cases hE
theorem J_lv (q : List Nat) (hq : lv_pick lv q = lv') (k : J w g E M pc lv' st) : J w g E M pc lv st := by
  obtain ⟨p, l, e, R, s, m, args, below, meth, c, ce, sl, Q, A, nL, res⟩ := g
  intro H locs ls hW hl hE
  exact k H locs ls hW (lv_sub hl q hq) hE
theorem J_tsin (C : CT w g own cc rm n) {x : Int32} {dflt lo hi : Int} {offs : Array Int} {len : Nat} {off : Int} {tgt : Nat} (hdg : decode cc pc = .ok (.tableswitch dflt lo hi offs, len)) (h1 : ¬ x.toInt < lo) (h2 : ¬ hi < x.toInt) (ho : offs[(x.toInt - lo).toNat]? = some off) (ht : (pc : Int) + off = (tgt : Int)) (k : J w g E M tgt lv st) : J w g E M pc lv (.int x :: st) := by
  obtain ⟨p, l, e, R, s, m, args, below, meth, c, ce, sl, Q, A, nL, res⟩ := g
  obtain ⟨hx, hb, hml, hown, hts, hK, hSE, hR, hce, hsl, hA, hA2, hn⟩ := C
  intro H locs ls hW hl hE
  exact lv_tableIn hx hb hdg h1 h2 ho ht (k H locs ls hW hl hE)
theorem J_tsout (C : CT w g own cc rm n) {x : Int32} {dflt lo hi : Int} {offs : Array Int} {len : Nat} {tgt : Nat} (hdg : decode cc pc = .ok (.tableswitch dflt lo hi offs, len)) (h : x.toInt < lo ∨ hi < x.toInt) (ht : (pc : Int) + dflt = (tgt : Int)) (k : J w g E M tgt lv st) : J w g E M pc lv (.int x :: st) := by
  obtain ⟨p, l, e, R, s, m, args, below, meth, c, ce, sl, Q, A, nL, res⟩ := g
  obtain ⟨hx, hb, hml, hown, hts, hK, hSE, hR, hce, hsl, hA, hA2, hn⟩ := C
  intro H locs ls hW hl hE
  exact lv_tableOut hx hb hdg h ht (k H locs ls hW hl hE)
theorem J_lsw (C : CT w g own cc rm n) {x : Int32} {dflt : Int} {ps : Array (Int × Int)} {len : Nat} {off : Int} {tgt : Nat} (hdg : decode cc pc = .ok (.lookupswitch dflt ps, len)) (hp : (ps.toList.zip (ps.toList.drop 1)).all (fun (a, next) => a.1 < next.1) = true) (ho : Op.lookupswitch.offset ps.toList dflt x.toInt = off) (ht : (pc : Int) + off = (tgt : Int)) (k : J w g E M tgt lv st) : J w g E M pc lv (.int x :: st) := by
  obtain ⟨p, l, e, R, s, m, args, below, meth, c, ce, sl, Q, A, nL, res⟩ := g
  obtain ⟨hx, hb, hml, hown, hts, hK, hSE, hR, hce, hsl, hA, hA2, hn⟩ := C
  intro H locs ls hW hl hE
  exact lv_lookup hx hb hdg hp ho ht (k H locs ls hW hl hE)
theorem J_iret (C : CT w g own cc rm n) {ty : FieldType} (r : RTi w g cc ty) {x : Int32} (hx : narrow ty (.int x) = .int x) (hdg : decode cc pc = .ok (.ireturn, 1)) : J w g (some (x, M)) M pc lv [.int x] := by
  obtain ⟨p, l, e, R, s, m, args, below, meth, c, ce, sl, Q, A, nL, res⟩ := g
  intro H locs ls hW hl hE
  exact r H locs ls M x pc hW (Option.some.inj hE) hdg hx
theorem bz_narrow {x : Int32} (h : bz x) : narrow .boolean (.int x) = .int x := by
  rcases h with rfl | rfl <;> rfl
theorem J_zret (C : CT w g own cc rm n) (r : RTi w g cc .boolean) {x : Int32} (hdg : decode cc pc = .ok (.ireturn, 1)) : J w g (if bz x then some (x, M) else none) M pc lv [.int x] :=
  J_ite (fun h => J_iret C r (bz_narrow h) hdg) (fun _ => J_none)
theorem J_vret (C : CT w g own cc rm n) (r : RTv w g cc) (hdg : decode cc pc = .ok (.return_, 1)) : J w g (some (0, M)) M pc lv [] := by
  obtain ⟨p, l, e, R, s, m, args, below, meth, c, ce, sl, Q, A, nL, res⟩ := g
  intro H locs ls hW hl hE
  exact r H locs ls M pc hW (by rw [← Option.some.inj hE]) hdg
/-- what a program knows of a field -/
abbrev FK (Cn : String) (T : u_T) (N ci k : Nat) (ref : String) (rf : Bool) : Prop := (∀ x ∈ u_ws Cn T N, x ∈ BIG) ∧ vwCl[ci]? = some (Cn, T, N) ∧ (T k).1 = ref ∧ ci < 10 ∧ k < N ∧ k < nfs ci ∧ isRf ci k = rf
abbrev FP (T : u_T) (N k : Nat) (ty0 : Nat → FieldType) (ty : FieldType) : Prop := (∀ k, k < N → parseFieldDescriptor (T k).2.2.1 = some (ty0 k)) ∧ (∀ a, a < N → ∀ b, b < N → a ≠ b → (T a).2.1 ≠ (T b).2.1) ∧ (T k).2.2.2 = false ∧ ty0 k = ty
/-! fields -/
theorem J_get (C : CT w g own cc rm n) {ref Cn : String} {T : u_T} {N index o ci k : Nat} {v : Value} (hin : ∀ x ∈ u_ws Cn T N, x ∈ BIG) (hlink : Cond.fieldLink own index ref (T k).2.1 (T k).2.2.1 ∈ BIG) (hcl : vwCl[ci]? = some (Cn, T, N)) (hsm : (T k).1 = ref) (ho : typ o = ci) (hci : ci < 10) (hk : k < N) (hk2 : k < nfs ci) (hv : (if isRf ci k = true then Value.ref (wa w (link o k)) else Value.int (M o k)) = v) (hdg : decode cc pc = .ok (.getfield index, 3)) (kk : J w g E M (pc + 3) lv (v :: st)) : J w g E M pc lv (.ref (wa w o) :: st) := by
  obtain ⟨p, l, e, R, s, m, args, below, meth, c, ce, sl, Q, A, nL, res⟩ := g
  obtain ⟨hx, hb, hml, hown, hts, hK, hSE, hR, hce, hsl, hA, hA2, hn⟩ := C
  intro H locs ls hW hl hE
  refine va_get hx hb hts hin hown hK hW.1 o (wsW_o w M ho hci) hcl k hk (hts _ hlink) (fun x h => by rw [← hsm]; exact h) (v := v) ?_ hdg (kk H locs ls hW hl hE)
  rw [cellF_get ho hk2, hv]
theorem J_geti (C : CT w g own cc rm n) {ref Cn : String} {T : u_T} {N index o ci k : Nat} (fk : FK Cn T N ci k ref false) (hlink : Cond.fieldLink own index ref (T k).2.1 (T k).2.2.1 ∈ BIG) (ho : typ o = ci) (hdg : decode cc pc = .ok (.getfield index, 3)) (kk : J w g E M (pc + 3) lv (.int (M o k) :: st)) : J w g E M pc lv (.ref (wa w o) :: st) :=
  J_get C fk.1 hlink fk.2.1 fk.2.2.1 ho fk.2.2.2.1 fk.2.2.2.2.1 fk.2.2.2.2.2.1 (by rw [fk.2.2.2.2.2.2]; rfl) hdg kk
theorem J_getr (C : CT w g own cc rm n) {ref Cn : String} {T : u_T} {N index o ci k : Nat} (fk : FK Cn T N ci k ref true) (hlink : Cond.fieldLink own index ref (T k).2.1 (T k).2.2.1 ∈ BIG) (ho : typ o = ci) (hdg : decode cc pc = .ok (.getfield index, 3)) (kk : J w g E M (pc + 3) lv (.ref (wa w (link o k)) :: st)) : J w g E M pc lv (.ref (wa w o) :: st) :=
  J_get C fk.1 hlink fk.2.1 fk.2.2.1 ho fk.2.2.2.1 fk.2.2.2.2.1 fk.2.2.2.2.2.1 (by rw [if_pos fk.2.2.2.2.2.2]) hdg kk
theorem J_put (C : CT w g own cc rm n) {ref Cn : String} {T : u_T} {ty0 : Nat → FieldType} {ty : FieldType} {N index o ci k : Nat} {x : Int32} (hin : ∀ x ∈ u_ws Cn T N, x ∈ BIG) (hlink : Cond.fieldLink own index ref (T k).2.1 (T k).2.2.1 ∈ BIG) (hcl : vwCl[ci]? = some (Cn, T, N)) (hsm : (T k).1 = ref) (hty : ∀ k, k < N → parseFieldDescriptor (T k).2.2.1 = some (ty0 k)) (hnm : ∀ a, a < N → ∀ b, b < N → a ≠ b → (T a).2.1 ≠ (T b).2.1) (hfin : (T k).2.2.2 = false) (ho : typ o = ci) (hci : ci < 10) (hk : k < N) (hk2 : k < nfs ci) (hrf : isRf ci k = false) (htk : ty0 k = ty) (hnr : narrow ty (.int x) = .int x) (hft : fits ty (.int x) = true) (hdg : decode cc pc = .ok (.putfield index, 3)) (kk : J w g E (mset M o k x) (pc + 3) lv st) : J w g E M pc lv (.int x :: .ref (wa w o) :: st) := by
  obtain ⟨p, l, e, R, s, m, args, below, meth, c, ce, sl, Q, A, nL, res⟩ := g
  obtain ⟨hx, hb, hml, hown, hts, hK, hSE, hR, hce, hsl, hA, hA2, hn⟩ := C
  intro H locs ls hW hl hE
  have ho3 : o < 103 := typ_lt ho (by omega)
  refine va_put hx hb hts hin ty0 hty hnm hown hK hW.1 hW.2.1 hW.2.2 o (wsW_o w M ho hci) hcl k hk (hts _ hlink) (fun x h => by rw [← hsm]; exact h) hfin (ty := ty) (by rw [hty k hk, htk]) hnr hft (by rw [cellF_len ho]; exact hk2) hdg (fun H1 locs1 hP hD hS => ?_)
  rw [cellF_set ho hrf, ← cellE_o (cA := wC w) ho hci] at hP hD
  rw [show mset M o k x = mrow M o (upd (M o) k x) from rfl, wsW_set w M ho3] at hP hD
  exact kk H1 locs1 ls ⟨hP, hD, hS⟩ hl hE
theorem J_puti (C : CT w g own cc rm n) {ref Cn : String} {T : u_T} {ty0 : Nat → FieldType} {N index o ci k : Nat} {x : Int32} (fk : FK Cn T N ci k ref false) (hlink : Cond.fieldLink own index ref (T k).2.1 (T k).2.2.1 ∈ BIG) (fp : FP T N k ty0 .int) (ho : typ o = ci) (hdg : decode cc pc = .ok (.putfield index, 3)) (kk : J w g E (mset M o k x) (pc + 3) lv st) : J w g E M pc lv (.int x :: .ref (wa w o) :: st) :=
  J_put C fk.1 hlink fk.2.1 fk.2.2.1 fp.1 fp.2.1 fp.2.2.1 ho fk.2.2.2.1 fk.2.2.2.2.1 fk.2.2.2.2.2.1 fk.2.2.2.2.2.2 fp.2.2.2 rfl rfl hdg kk
theorem J_putz (C : CT w g own cc rm n) {ref Cn : String} {T : u_T} {ty0 : Nat → FieldType} {N index o ci k : Nat} {x : Int32} (fk : FK Cn T N ci k ref false) (hlink : Cond.fieldLink own index ref (T k).2.1 (T k).2.2.1 ∈ BIG) (fp : FP T N k ty0 .boolean) (ho : typ o = ci) (hdg : decode cc pc = .ok (.putfield index, 3)) (kk : J w g E (mset M o k x) (pc + 3) lv st) : J w g (if bz x then E else none) M pc lv (.int x :: .ref (wa w o) :: st) :=
  J_ite (fun h => J_put C fk.1 hlink fk.2.1 fk.2.2.1 fp.1 fp.2.1 fp.2.2.1 ho fk.2.2.2.1 fk.2.2.2.2.1 fk.2.2.2.2.2.1 fk.2.2.2.2.2.2 fp.2.2.2 (bz_narrow h) (by rcases h with rfl | rfl <;> rfl) hdg kk) (fun _ => J_none)
theorem J_putzc (C : CT w g own cc rm n) {ref Cn : String} {T : u_T} {ty0 : Nat → FieldType} {N index o ci k : Nat} {x : Int32} (h : bz x) (fk : FK Cn T N ci k ref false) (hlink : Cond.fieldLink own index ref (T k).2.1 (T k).2.2.1 ∈ BIG) (fp : FP T N k ty0 .boolean) (ho : typ o = ci) (hdg : decode cc pc = .ok (.putfield index, 3)) (kk : J w g E (mset M o k x) (pc + 3) lv st) : J w g E M pc lv (.int x :: .ref (wa w o) :: st) :=
  J_put C fk.1 hlink fk.2.1 fk.2.2.1 fp.1 fp.2.1 fp.2.2.1 ho fk.2.2.2.1 fk.2.2.2.2.1 fk.2.2.2.2.2.1 fk.2.2.2.2.2.2 fp.2.2.2 (bz_narrow h) (by rcases h with rfl | rfl <;> rfl) hdg kk
/-! arrays -/
theorem J_aload_ (C : CT w g own cc rm n) {o : Nat} {i : Int32} (ho : typ o = 11) (hdg : decode cc pc = .ok (.iaload, 1)) (kk : J w g E M (pc + 1) lv (.int (M o i.toNatClampNeg) :: st)) : J w g (if inB i (alen o) then E else none) M pc lv (.int i :: .ref (wa w o) :: st) := by
  refine J_ite (fun hi => ?_) (fun _ => J_none)
  obtain ⟨p, l, e, R, s, m, args, below, meth, c, ce, sl, Q, A, nL, res⟩ := g
  obtain ⟨hx, hb, hml, hown, hts, hK, hSE, hR, hce, hsl, hA, hA2, hn⟩ := C
  intro H locs ls hW hl hE
  exact va_iald hx hb hK hW.1 o 1 (wsW_a w M ho (by decide) (by decide)) rfl hi hdg (kk H locs ls hW hl hE)
theorem J_zaload (C : CT w g own cc rm n) {o : Nat} {i : Int32} (ho : typ o = 12) (hdg : decode cc pc = .ok (.baload, 1)) (kk : J w g E M (pc + 1) lv (.int (M o i.toNatClampNeg) :: st)) : J w g (if inB i (alen o) then E else none) M pc lv (.int i :: .ref (wa w o) :: st) := by
  refine J_ite (fun hi => ?_) (fun _ => J_none)
  obtain ⟨p, l, e, R, s, m, args, below, meth, c, ce, sl, Q, A, nL, res⟩ := g
  obtain ⟨hx, hb, hml, hown, hts, hK, hSE, hR, hce, hsl, hA, hA2, hn⟩ := C
  intro H locs ls hW hl hE
  exact va_zald hx hb hK hW.1 o 2 (wsW_a w M ho (by decide) (by decide)) rfl hi hdg (kk H locs ls hW hl hE)
theorem J_baload (C : CT w g own cc rm n) {o : Nat} {i : Int32} (ho : typ o = 10) (hdg : decode cc pc = .ok (.baload, 1)) (kk : J w g E M (pc + 1) lv (.int (M o i.toNatClampNeg) :: st)) : J w g (if inB i (alen o) then E else none) M pc lv (.int i :: .ref (wa w o) :: st) := by
  refine J_ite (fun hi => ?_) (fun _ => J_none)
  obtain ⟨p, l, e, R, s, m, args, below, meth, c, ce, sl, Q, A, nL, res⟩ := g
  obtain ⟨hx, hb, hml, hown, hts, hK, hSE, hR, hce, hsl, hA, hA2, hn⟩ := C
  intro H locs ls hW hl hE
  exact va_bald hx hb hK hW.1 o 0 (wsW_a w M ho (by decide) (by decide)) rfl hi hdg (kk H locs ls hW hl hE)
theorem J_aaload (C : CT w g own cc rm n) {o : Nat} {i : Int32} (ho : typ o = 13) (hdg : decode cc pc = .ok (.aaload, 1)) (kk : i.toNatClampNeg < alen o → J w g E M (pc + 1) lv (.ref (wa w (link o i.toNatClampNeg)) :: st)) : J w g (if inB i (alen o) then E else none) M pc lv (.int i :: .ref (wa w o) :: st) := by
  refine J_ite (fun hi => ?_) (fun _ => J_none)
  have hk2 := kk (Nat.not_le.mp fun q => hi (Or.inr q))
  obtain ⟨p, l, e, R, s, m, args, below, meth, c, ce, sl, Q, A, nL, res⟩ := g
  obtain ⟨hx, hb, hml, hown, hts, hK, hSE, hR, hce, hsl, hA, hA2, hn⟩ := C
  intro H locs ls hW hl hE
  exact va_aldq hx hb hK hW.1 o 3 (wsW_w w M ho) rfl hi hdg (hk2 H locs ls hW hl hE)
theorem J_alen (C : CT w g own cc rm n) {o : Nat} (ho : typ o = 11) (hdg : decode cc pc = .ok (.arraylength, 1)) (kk : J w g E M (pc + 1) lv (.int (Int32.ofNat (alen o)) :: st)) : J w g E M pc lv (.ref (wa w o) :: st) := by
  obtain ⟨p, l, e, R, s, m, args, below, meth, c, ce, sl, Q, A, nL, res⟩ := g
  obtain ⟨hx, hb, hml, hown, hts, hK, hSE, hR, hce, hsl, hA, hA2, hn⟩ := C
  intro H locs ls hW hl hE
  exact va_alen hx hb hK hW.1 o 1 (x := (alen o, .inl (M o))) (wsW_a w M ho (by decide) (by decide)) rfl rfl hdg (kk H locs ls hW hl hE)
theorem J_iastore (C : CT w g own cc rm n) {o : Nat} {i x : Int32} (ho : typ o = 11) (hdg : decode cc pc = .ok (.iastore, 1)) (kk : J w g E (mset M o i.toNatClampNeg x) (pc + 1) lv st) : J w g (if inB i (alen o) then E else none) M pc lv (.int x :: .int i :: .ref (wa w o) :: st) := by
  refine J_ite (fun hi => ?_) (fun _ => J_none)
  obtain ⟨p, l, e, R, s, m, args, below, meth, c, ce, sl, Q, A, nL, res⟩ := g
  obtain ⟨hx, hb, hml, hown, hts, hK, hSE, hR, hce, hsl, hA, hA2, hn⟩ := C
  intro H locs ls hW hl hE
  have ho3 : o < 103 := typ_lt ho (by omega)
  refine va_iast hx hb hK hW.1 hW.2.1 hW.2.2 o 1 (wsW_a w M ho (by decide) (by decide)) rfl hi hdg (fun H1 locs1 hP hD hS => ?_)
  have ee : ((.inl (wC w (11 - 10), alen o, .inl (upd (M o) i.toNatClampNeg x))) : va_E) = cellE (wC w) (wa w) (mrow M o (upd (M o) i.toNatClampNeg x)) o := by
    rw [cellE_a ho (by decide) (by decide)]; simp [mrow]
  rw [ee, wsW_set w M ho3] at hP hD
  exact kk H1 locs1 ls ⟨hP, hD, hS⟩ hl hE
theorem J_zastore (C : CT w g own cc rm n) {o : Nat} {i x : Int32} (ho : typ o = 12) (hdg : decode cc pc = .ok (.bastore, 1)) (kk : J w g E (mset M o i.toNatClampNeg (vp_nar .boolean x)) (pc + 1) lv st) : J w g (if inB i (alen o) then E else none) M pc lv (.int x :: .int i :: .ref (wa w o) :: st) := by
  refine J_ite (fun hi => ?_) (fun _ => J_none)
  obtain ⟨p, l, e, R, s, m, args, below, meth, c, ce, sl, Q, A, nL, res⟩ := g
  obtain ⟨hx, hb, hml, hown, hts, hK, hSE, hR, hce, hsl, hA, hA2, hn⟩ := C
  intro H locs ls hW hl hE
  have ho3 : o < 103 := typ_lt ho (by omega)
  refine va_zast hx hb hK hW.1 hW.2.1 hW.2.2 o 2 (wsW_a w M ho (by decide) (by decide)) rfl hi hdg (fun H1 locs1 hP hD hS => ?_)
  have ee : ((.inl (wC w (12 - 10), alen o, .inl (upd (M o) i.toNatClampNeg (vp_nar .boolean x)))) : va_E) = cellE (wC w) (wa w) (mrow M o (upd (M o) i.toNatClampNeg (vp_nar .boolean x))) o := by
    rw [cellE_a ho (by decide) (by decide)]; simp [mrow]
  rw [ee, wsW_set w M ho3] at hP hD
  exact kk H1 locs1 ls ⟨hP, hD, hS⟩ hl hE
theorem J_bastore (C : CT w g own cc rm n) {o : Nat} {i x : Int32} (ho : typ o = 10) (hdg : decode cc pc = .ok (.bastore, 1)) (kk : J w g E (mset M o i.toNatClampNeg (vp_nar .byte x)) (pc + 1) lv st) : J w g (if inB i (alen o) then E else none) M pc lv (.int x :: .int i :: .ref (wa w o) :: st) := by
  refine J_ite (fun hi => ?_) (fun _ => J_none)
  obtain ⟨p, l, e, R, s, m, args, below, meth, c, ce, sl, Q, A, nL, res⟩ := g
  obtain ⟨hx, hb, hml, hown, hts, hK, hSE, hR, hce, hsl, hA, hA2, hn⟩ := C
  intro H locs ls hW hl hE
  have ho3 : o < 103 := typ_lt ho (by omega)
  refine va_bast hx hb hK hW.1 hW.2.1 hW.2.2 o 0 (wsW_a w M ho (by decide) (by decide)) rfl hi hdg (fun H1 locs1 hP hD hS => ?_)
  have ee : ((.inl (wC w (10 - 10), alen o, .inl (upd (M o) i.toNatClampNeg (vp_nar .byte x)))) : va_E) = cellE (wC w) (wa w) (mrow M o (upd (M o) i.toNatClampNeg (vp_nar .byte x))) o := by
    rw [cellE_a ho (by decide) (by decide)]; simp [mrow]
  rw [ee, wsW_set w M ho3] at hP hD
  exact kk H1 locs1 ls ⟨hP, hD, hS⟩ hl hE
/-! calls -/
theorem WD_blind (w : WE) (M : Mem) (As : List Value) : FrameBlind (va_Pc As (fun U => WD w M U)) := by
  intro a U g mk h
  obtain ⟨h1, h2, h3, h4, h5⟩ := h
  exact ⟨h1, h2, va_K.moved (u := U) (U := U.calling g mk a) (Vm.Alike.refl U.vm) h3, h4, SE.same (u := U) (U := U.calling g mk a) rfl h5⟩
theorem WD_pre {w : WE} {A : Nat → Prop} {s U : State} {M : Mem} {H : Heap} {locs : List Loc} (hK : va_K (wD w) vwCl (tysW w) s) (hSE : SE w s s.heap) (hA : ∀ q, AW w q → A q) (hW : WH w A s M H locs) (hU : U.heap = H) (hw : s.WarmedH U.vm) (hS : va_S A s.heap H locs) (hA2 : ∀ q : Nat, q < s.heap.size → A q → AW w q) : WD w M U := by
  refine ⟨by rw [hU]; exact hW.1, va_K.moved hw.alike hK, hW.2.1.weaken (fun _ _ _ _ => trivial), SE.warm hw ?_⟩
  rw [hU]
  exact hSE.kept (fun a h1 h2 => hS.2.1 a h1 (fun q => h2 (hA2 a h1 q)))

/-- what a call wants of the room -/
abbrev rmOK (rm2 rm : Room) (maxL : Nat) : Prop := rm2.cells = 0 ∧ rm2.slots = 0 ∧ rm2.frames + 1 ≤ rm.frames ∧ 8 + (maxL + 11) + rm2.locals ≤ rm.locals
abbrev yOK (y : MethodName) (n : Nat) : Prop := y.cls ≠ "java/lang/invoke/MethodHandle" ∧ y.cls ≠ "java/lang/invoke/VarHandle" ∧ (parseMethodDescriptor y.desc).map (fun d => d.parameters.length) = some n
theorem J_cvi (C : CT w g own cc rm n) {y : MethodName} {ws2 ws' : List Cond} {rm2 : Room} {As : List Value} {E2 : Option Res} {o ci N : Nat} {Cn : String} {T : u_T} {bytes : ByteArray} {maxL k index : Nat} {ret : Option FieldType} {K : Int32 → Mem → Option Res} {st0 : List Value} (hM : MC (gl g) w y ws2 rm2 (.ref (wa w o) :: As) E2 M) (hg : GoodIn BIG (wsV own index Cn y ws2)) (hw : ws2 = Cond.code y bytes maxL ret :: ws') (hr : rmOK rm2 rm maxL) (hy : y.cls = Cn ∧ yOK y k) (ho : typ o = ci) (hci : ci < 10) (hcl : vwCl[ci]? = some (Cn, T, N)) (hn : As.length = k) (hcat : (st.map fun v => v.category).sum ≤ 8) (hdg : decode cc pc = .ok (.invokevirtual index, 3)) (hst : As.reverse ++ .ref (wa w o) :: st = st0) (kk : ∀ (r : Int32) (M' : Mem), J w g (K r M') M' (pc + 3) lv (.int r :: st)) : J w g (cb E2 K) M pc lv st0 := by
  subst hst
  obtain ⟨p, l, e, R, s, m, args, below, meth, c, ce, sl, Q, A, nL, res⟩ := g
  obtain ⟨hx, hb, hml, hown, hts, hK, hSE, hR, hce, hsl, hA, hA2, hn2⟩ := C
  intro H locs ls hW hl hE
  subst hR
  obtain ⟨r, M', h2, h3⟩ := cb_spec hE
  refine va_calli (va_runV (As := As) (rest := st) ⟨hx, hb, hml, hown, hts⟩ (hM (r, M') h2) (cwV k hts hg hw hr.1 hr.2.1 hy hr.2.2) ⟨WD_blind w M _, va_recv hK hW.1 hcl (wsW_o w M ho hci), fun U hU hw2 => ⟨rfl, WD_pre hK hSE hA hW hU hw2 hW.2.2 hA2⟩⟩ rfl hn hl.1 rfl (lv_room hcat) hdg ⟨hce, hsl⟩) hW.2.2 (fun q _ h => hA q h) hA (fun r1 M1 t H1 locs1 ht hvm hpost hB hz hk hS1 => ?_)
  cases hpost
  exact kk r M' H1 locs1 ls ⟨by rw [← ht]; exact hB.1, ⟨hB.2.1, fun k q h => hA _ (wsW_A w _ k q h)⟩, hS1⟩ hl h3
theorem J_csi (C : CT w g own cc rm n) {y : MethodName} {ws2 ws' : List Cond} {rm2 : Room} {As : List Value} {E2 : Option Res} {dm : Nat} {bytes : ByteArray} {maxL k index : Nat} {ret : Option FieldType} {K : Int32 → Mem → Option Res} {st0 : List Value} (hM : MC (gl g) w y ws2 rm2 As E2 M) (hg : GoodIn BIG (va_wsS own index y ws2)) (hw : ws2 = Cond.code y bytes maxL ret :: ws') (hr : rmOK rm2 rm maxL) (hy : yOK y k) (hn : As.length = k) (hcat : (st.map fun v => v.category).sum ≤ 8) (hdg : decode cc pc = .ok (.invokestatic index, 3)) (hst : As.reverse ++ st = st0) (kk : ∀ (r : Int32) (M' : Mem), J w g (K r M') M' (pc + 3) lv (.int r :: st)) : J w g (cb E2 K) M pc lv st0 := by
  subst hst
  obtain ⟨p, l, e, R, s, m, args, below, meth, c, ce, sl, Q, A, nL, res⟩ := g
  obtain ⟨hx, hb, hml, hown, hts, hK, hSE, hR, hce, hsl, hA, hA2, hn2⟩ := C
  intro H locs ls hW hl hE
  subst hR
  obtain ⟨r, M', h2, h3⟩ := cb_spec hE
  refine va_calli (va_runS (As := As) (rest := st) ⟨hx, hb, hml, hown, hts⟩ (hM (r, M') h2) (va_cwS k hts hg hw hr.1 hr.2.1 hy hr.2.2) ⟨WD_blind w M _, fun U hU hw2 => ⟨rfl, WD_pre hK hSE hA hW hU hw2 hW.2.2 hA2⟩⟩ rfl hn hl.1 rfl (lv_room hcat) hdg ⟨hce, hsl⟩) hW.2.2 (fun q _ h => hA q h) hA (fun r1 M1 t H1 locs1 ht hvm hpost hB hz hk hS1 => ?_)
  cases hpost
  exact kk r M' H1 locs1 ls ⟨by rw [← ht]; exact hB.1, ⟨hB.2.1, fun k q h => hA _ (wsW_A w _ k q h)⟩, hS1⟩ hl h3
theorem J_cni (C : CT w g own cc rm n) {y : MethodName} {ws2 ws' : List Cond} {rm2 : Room} {As : List Value} {E2 : Option Res} {dm : Nat} {bytes : ByteArray} {maxL k index : Nat} {ret : Option FieldType} {K : Int32 → Mem → Option Res} {st0 : List Value} (hM : MC (gl g) w y ws2 rm2 As E2 M) (hg : GoodIn BIG ws2) (hw : ws2 = Cond.code y bytes maxL ret :: ws') (hr : rmOK rm2 rm maxL) (hy : yOK y k) (hyy : yX8_whyNotWithin = y) (hlk : (own, index) ∈ nestL) (hini : Cond.initialized y.cls ∈ BIG) (hstt : Cond.static y ∈ BIG) (hn : As.length = k) (hcat : (st.map fun v => v.category).sum ≤ 8) (hdg : decode cc pc = .ok (.invokestatic index, 3)) (hst : As.reverse ++ st = st0) (kk : ∀ (r : Int32) (M' : Mem), J w g (K r M') M' (pc + 3) lv (.int r :: st)) : J w g (cb E2 K) M pc lv st0 := by
  subst hst
  obtain ⟨p, l, e, R, s, m, args, below, meth, c, ce, sl, Q, A, nL, res⟩ := g
  obtain ⟨hx, hb, hml, hown, hts, hK, hSE, hR, hce, hsl, hA, hA2, hn2⟩ := C
  intro H locs ls hW hl hE
  subst hR
  obtain ⟨r, M', h2, h3⟩ := cb_spec hE
  refine va_calli (va_runSN (As := As) (rest := st) ⟨hx, hb, hml, hown, hts⟩ (hM (r, M') h2) ⟨va_cnB (host := "ChairTooFew") k hts hg hw hr.1 hr.2.1 (hyy ▸ hSE.2.2.2.2 _ hlk) (hts _ hini) hy hr.2.2, hts _ hstt, trivial⟩ ⟨WD_blind w M _, fun U hU hw2 => ⟨rfl, WD_pre hK hSE hA hW hU hw2 hW.2.2 hA2⟩⟩ rfl hn hl.1 rfl (lv_room hcat) hdg ⟨hce, hsl⟩) hW.2.2 (fun q _ h => hA q h) hA (fun r1 M1 t H1 locs1 ht hvm hpost hB hz hk hS1 => ?_)
  cases hpost
  exact kk r M' H1 locs1 ls ⟨by rw [← ht]; exact hB.1, ⟨hB.2.1, fun k q h => hA _ (wsW_A w _ k q h)⟩, hS1⟩ hl h3
theorem J_cvv (C : CT w g own cc rm n) {y : MethodName} {ws2 ws' : List Cond} {rm2 : Room} {As : List Value} {E2 : Option Res} {o ci N : Nat} {Cn : String} {T : u_T} {bytes : ByteArray} {maxL k index : Nat} {ret : Option FieldType} {K : Int32 → Mem → Option Res} {st0 : List Value} (hM : MV (gl g) w y ws2 rm2 (.ref (wa w o) :: As) E2 M) (hg : GoodIn BIG (wsV own index Cn y ws2)) (hw : ws2 = Cond.code y bytes maxL ret :: ws') (hr : rmOK rm2 rm maxL) (hy : y.cls = Cn ∧ yOK y k) (ho : typ o = ci) (hci : ci < 10) (hcl : vwCl[ci]? = some (Cn, T, N)) (hn : As.length = k) (hcat : (st.map fun v => v.category).sum ≤ 8) (hdg : decode cc pc = .ok (.invokevirtual index, 3)) (hst : As.reverse ++ .ref (wa w o) :: st = st0) (kk : ∀ (r : Int32) (M' : Mem), J w g (K r M') M' (pc + 3) lv st) : J w g (cb E2 K) M pc lv st0 := by
  subst hst
  obtain ⟨p, l, e, R, s, m, args, below, meth, c, ce, sl, Q, A, nL, res⟩ := g
  obtain ⟨hx, hb, hml, hown, hts, hK, hSE, hR, hce, hsl, hA, hA2, hn2⟩ := C
  intro H locs ls hW hl hE
  subst hR
  obtain ⟨r, M', h2, h3⟩ := cb_spec hE
  refine va_callv (va_runV (As := As) (rest := st) ⟨hx, hb, hml, hown, hts⟩ (hM (r, M') h2) (cwV k hts hg hw hr.1 hr.2.1 hy hr.2.2) ⟨WD_blind w M _, va_recv hK hW.1 hcl (wsW_o w M ho hci), fun U hU hw2 => ⟨rfl, WD_pre hK hSE hA hW hU hw2 hW.2.2 hA2⟩⟩ rfl hn hl.1 rfl (lv_room hcat) hdg ⟨hce, hsl⟩) hW.2.2 (fun q _ h => hA q h) hA (fun M1 t H1 locs1 ht hvm hpost hB hz hk hS1 => ?_)
  cases hpost
  exact kk r M' H1 locs1 ls ⟨by rw [← ht]; exact hB.1, ⟨hB.2.1, fun k q h => hA _ (wsW_A w _ k q h)⟩, hS1⟩ hl h3
theorem J_csv (C : CT w g own cc rm n) {y : MethodName} {ws2 ws' : List Cond} {rm2 : Room} {As : List Value} {E2 : Option Res} {dm : Nat} {bytes : ByteArray} {maxL k index : Nat} {ret : Option FieldType} {K : Int32 → Mem → Option Res} {st0 : List Value} (hM : MV (gl g) w y ws2 rm2 As E2 M) (hg : GoodIn BIG (va_wsS own index y ws2)) (hw : ws2 = Cond.code y bytes maxL ret :: ws') (hr : rmOK rm2 rm maxL) (hy : yOK y k) (hn : As.length = k) (hcat : (st.map fun v => v.category).sum ≤ 8) (hdg : decode cc pc = .ok (.invokestatic index, 3)) (hst : As.reverse ++ st = st0) (kk : ∀ (r : Int32) (M' : Mem), J w g (K r M') M' (pc + 3) lv st) : J w g (cb E2 K) M pc lv st0 := by
  subst hst
  obtain ⟨p, l, e, R, s, m, args, below, meth, c, ce, sl, Q, A, nL, res⟩ := g
  obtain ⟨hx, hb, hml, hown, hts, hK, hSE, hR, hce, hsl, hA, hA2, hn2⟩ := C
  intro H locs ls hW hl hE
  subst hR
  obtain ⟨r, M', h2, h3⟩ := cb_spec hE
  refine va_callv (va_runS (As := As) (rest := st) ⟨hx, hb, hml, hown, hts⟩ (hM (r, M') h2) (va_cwS k hts hg hw hr.1 hr.2.1 hy hr.2.2) ⟨WD_blind w M _, fun U hU hw2 => ⟨rfl, WD_pre hK hSE hA hW hU hw2 hW.2.2 hA2⟩⟩ rfl hn hl.1 rfl (lv_room hcat) hdg ⟨hce, hsl⟩) hW.2.2 (fun q _ h => hA q h) hA (fun M1 t H1 locs1 ht hvm hpost hB hz hk hS1 => ?_)
  cases hpost
  exact kk r M' H1 locs1 ls ⟨by rw [← ht]; exact hB.1, ⟨hB.2.1, fun k q h => hA _ (wsW_A w _ k q h)⟩, hS1⟩ hl h3
theorem J_cnv (C : CT w g own cc rm n) {y : MethodName} {ws2 ws' : List Cond} {rm2 : Room} {As : List Value} {E2 : Option Res} {dm : Nat} {bytes : ByteArray} {maxL k index : Nat} {ret : Option FieldType} {K : Int32 → Mem → Option Res} {st0 : List Value} (hM : MV (gl g) w y ws2 rm2 As E2 M) (hg : GoodIn BIG ws2) (hw : ws2 = Cond.code y bytes maxL ret :: ws') (hr : rmOK rm2 rm maxL) (hy : yOK y k) (hyy : yX8_whyNotWithin = y) (hlk : (own, index) ∈ nestL) (hini : Cond.initialized y.cls ∈ BIG) (hstt : Cond.static y ∈ BIG) (hn : As.length = k) (hcat : (st.map fun v => v.category).sum ≤ 8) (hdg : decode cc pc = .ok (.invokestatic index, 3)) (hst : As.reverse ++ st = st0) (kk : ∀ (r : Int32) (M' : Mem), J w g (K r M') M' (pc + 3) lv st) : J w g (cb E2 K) M pc lv st0 := by
  subst hst
  obtain ⟨p, l, e, R, s, m, args, below, meth, c, ce, sl, Q, A, nL, res⟩ := g
  obtain ⟨hx, hb, hml, hown, hts, hK, hSE, hR, hce, hsl, hA, hA2, hn2⟩ := C
  intro H locs ls hW hl hE
  subst hR
  obtain ⟨r, M', h2, h3⟩ := cb_spec hE
  refine va_callv (va_runSN (As := As) (rest := st) ⟨hx, hb, hml, hown, hts⟩ (hM (r, M') h2) ⟨va_cnB (host := "ChairTooFew") k hts hg hw hr.1 hr.2.1 (hyy ▸ hSE.2.2.2.2 _ hlk) (hts _ hini) hy hr.2.2, hts _ hstt, trivial⟩ ⟨WD_blind w M _, fun U hU hw2 => ⟨rfl, WD_pre hK hSE hA hW hU hw2 hW.2.2 hA2⟩⟩ rfl hn hl.1 rfl (lv_room hcat) hdg ⟨hce, hsl⟩) hW.2.2 (fun q _ h => hA q h) hA (fun M1 t H1 locs1 ht hvm hpost hB hz hk hS1 => ?_)
  cases hpost
  exact kk r M' H1 locs1 ls ⟨by rw [← ht]; exact hB.1, ⟨hB.2.1, fun k q h => hA _ (wsW_A w _ k q h)⟩, hS1⟩ hl h3

theorem J_mmax (C : CT w g own cc rm n) {index : Nat} {x y : Int32} (h1 : Cond.methodLink own index Lib.Math.max.name ∈ BIG) (h2 : Cond.static Lib.Math.max.name ∈ BIG) (h3 : Cond.initialized "java/lang/Math" ∈ BIG) (h4 : Cond.code Lib.Math.max.name Lib.Math.max.code 2 (some .int) ∈ BIG) (hr : 1 ≤ rm.frames ∧ 21 ≤ rm.locals) (hcat : (st.map fun v => v.category).sum ≤ 8) (hdg : decode cc pc = .ok (.invokestatic index, 3)) (kk : J w g E M (pc + 3) lv (.int (if x < y then y else x) :: st)) : J w g E M pc lv (.int y :: .int x :: st) := by
  obtain ⟨p, l, e, R, s, m, args, below, meth, c, ce, sl, Q, A, nL, res⟩ := g
  obtain ⟨hx, hb, hml, hown, hts, hK, hSE, hR, hce, hsl, hA, hA2, hn⟩ := C
  intro H locs ls hW hl hE
  subst hR
  exact va_mmax hx hb (by rw [hml]; exact hl.1.symm) hown (hts _ h1) (hts _ h2) (hts _ h3) (hts _ h4) hr.1 (by omega) hce hsl hdg (kk H locs ls hW hl hE)
theorem J_mmin (C : CT w g own cc rm n) {index : Nat} {x y : Int32} (h1 : Cond.methodLink own index Lib.Math.min.name ∈ BIG) (h2 : Cond.static Lib.Math.min.name ∈ BIG) (h3 : Cond.initialized "java/lang/Math" ∈ BIG) (h4 : Cond.code Lib.Math.min.name Lib.Math.min.code 2 (some .int) ∈ BIG) (hr : 1 ≤ rm.frames ∧ 21 ≤ rm.locals) (hcat : (st.map fun v => v.category).sum ≤ 8) (hdg : decode cc pc = .ok (.invokestatic index, 3)) (kk : J w g E M (pc + 3) lv (.int (if y < x then y else x) :: st)) : J w g E M pc lv (.int y :: .int x :: st) := by
  obtain ⟨p, l, e, R, s, m, args, below, meth, c, ce, sl, Q, A, nL, res⟩ := g
  obtain ⟨hx, hb, hml, hown, hts, hK, hSE, hR, hce, hsl, hA, hA2, hn⟩ := C
  intro H locs ls hW hl hE
  subst hR
  exact va_mmin hx hb (by rw [hml]; exact hl.1.symm) hown (hts _ h1) (hts _ h2) (hts _ h3) (hts _ h4) hr.1 (by omega) hce hsl hdg (kk H locs ls hW hl hE)
/-- System.arraycopy of k numbers, from the first -/
theorem J_copy (C : CT w g own cc rm n) {index c t0 k : Nat} {ty : FieldType} {o0 o1 : Nat} {z : Int32} (h1 : Cond.methodLink own index arraycopyName ∈ BIG) (h2 : Cond.native arraycopyName ∈ BIG) (h3 : Cond.static arraycopyName ∈ BIG) (h4 : Cond.initialized "java/lang/System" ∈ BIG) (hr : 1 ≤ rm.frames ∧ 8 + (nativeFrameWords "java/lang/System" "arraycopy" 5 + 11) ≤ rm.locals) (hcat : (st.map fun v => v.category).sum ≤ 8) (ho0 : typ o0 = c) (ho1 : typ o1 = c) (hc1 : 10 ≤ c) (hc2 : c < 13) (ht : (tysW w)[t0]? = some (wC w (c - 10), ty)) (hpr : refKind ty = false) (hz : ¬ z < 0) (hzk : z.toNatClampNeg = k) (hl0 : k ≤ alen o0) (hl1 : k ≤ alen o1) (hfit : ∀ i, i < k → fits ty (.int (M o0 i)) = true) (hdg : decode cc pc = .ok (.invokestatic index, 3)) (kk : J w g E (mrow M o1 (va_cpy (M o0) (M o1) 0 0 k)) (pc + 3) lv st) : J w g E M pc lv (.int z :: .int 0 :: .ref (wa w o1) :: .int 0 :: .ref (wa w o0) :: st) := by
  obtain ⟨p, l, e, R, s, m, args, below, meth, c', ce, sl, Q, A, nL, res⟩ := g
  obtain ⟨hx, hb, hml, hown, hts, hK, hSE, hR, hce, hsl, hA, hA2, hn⟩ := C
  intro H locs ls hW hl hE
  subst hR
  subst hzk
  have ho3 : o1 < 103 := typ_lt ho1 (by omega)
  have z0 : (0 : Int32).toNatClampNeg = 0 := rfl
  refine va_copyi (sp := 0) (dp := 0) (ty := ty) hx hb (by rw [hml]; exact hl.1.symm) hown (hts _ h1) (hts _ h2) (hts _ h3) (hts _ h4) hK hW.1 hW.2.1 hW.2.2 o0 o1 t0 t0 (wsW_a w M ho0 hc1 hc2) (wsW_a w M ho1 hc1 hc2) ht ht hpr (by decide) (by decide) hz (by rw [z0]; omega) (by rw [z0]; omega) (fun i hi => by rw [z0, Nat.zero_add]; exact hfit i hi) hr.1 (by omega) hdg (fun H1 locs1 hP hD hS => ?_)
  have ee : ((.inl (wC w (c - 10), alen o1, .inl (va_cpy (M o0) (M o1) (0 : Int32).toNatClampNeg (0 : Int32).toNatClampNeg z.toNatClampNeg))) : va_E) = cellE (wC w) (wa w) (mrow M o1 (va_cpy (M o0) (M o1) 0 0 z.toNatClampNeg)) o1 := by
    rw [cellE_a ho1 hc1 hc2]; simp [mrow]
  rw [ee, wsW_set w M ho3] at hP hD
  exact kk H1 locs1 ls ⟨hP, hD, hS⟩ hl hE
/-! the method out of its program -/
theorem mc_of_J {l : Launch} {y : MethodName} {As : List Value} {ty : FieldType} (hown : y.cls = own) (hy : plainName y.cls = true) (hrc : rm.cells = 0) (hrs : rm.slots = 0) (hlen : (lg_sl As).length ≤ n) (body : ∀ g : GT, gl g = l → CT w g own cc rm n → RTi w g cc ty → J w g E M 0 (lv_args 0 As) []) : MC l w y (wz y cc n (some ty)) rm As E M := by
  intro res hE
  refine Met.ofW (cc := cc) (maxL := n) (ret := some ty) hy rfl ?_
  intro p e s m args below meth c s₁ B hml hv
  obtain ⟨rfl, hP, hK, hD0, hSE⟩ := hv
  have hx := B.exec
  have hb := B.bytes
  have hr := B.returns
  have hts0 := atoms_spec B.pre
  have hts : ∀ x ∈ BIG, x.before _ s = true := fun x h => hts0 x (List.mem_cons_of_mem _ h)
  have hown' : s.vm.findClass own = some m.cls := by
    rw [← hown]
    exact findClass_of_methodNamed B.named
  have hlocks := B.notSynchronized
  have hl := lv_entry As (n := n) hlen
  rw [lg_entry_eq]
  refine body (p, l, e, rm, s, m, _, below, meth, c, 0, 0, _, AW w, n, res) rfl ⟨hx, hb, hml, hown', hts, hK, hSE, rfl, Nat.zero_le _, Nat.zero_le _, fun _ h => h, fun _ _ h => h, rfl⟩ ?_ s.heap [] _ ⟨hP, ⟨hD0.1, wsW_A w M⟩, va_S.rf⟩ hl hE
  intro H locs ls M1 x pc hW hres hd hn
  exact W.zret hx hb hr hn (fun t ht _ => ⟨⟨x, M1, rfl, hres, by rw [ht]; exact hW.1, ⟨hW.2.1.1, fun _ _ _ => trivial⟩⟩, hW.2.2.F ht⟩) hW.2.2.2.2 hd hlocks
theorem mv_of_J {l : Launch} {y : MethodName} {As : List Value} (hown : y.cls = own) (hy : plainName y.cls = true) (hrc : rm.cells = 0) (hrs : rm.slots = 0) (hlen : (lg_sl As).length ≤ n) (body : ∀ g : GT, gl g = l → CT w g own cc rm n → RTv w g cc → J w g E M 0 (lv_args 0 As) []) : MV l w y (wz y cc n none) rm As E M := by
  intro res hE
  refine Met.ofW (cc := cc) (maxL := n) (ret := none) hy rfl ?_
  intro p e s m args below meth c s₁ B hml hv
  obtain ⟨rfl, hP, hK, hD0, hSE⟩ := hv
  have hx := B.exec
  have hb := B.bytes
  have hr := B.returns
  have hts0 := atoms_spec B.pre
  have hts : ∀ x ∈ BIG, x.before _ s = true := fun x h => hts0 x (List.mem_cons_of_mem _ h)
  have hown' : s.vm.findClass own = some m.cls := by
    rw [← hown]
    exact findClass_of_methodNamed B.named
  have hlocks := B.notSynchronized
  have hl := lv_entry As (n := n) hlen
  rw [lg_entry_eq]
  refine body (p, l, e, rm, s, m, _, below, meth, c, 0, 0, _, AW w, n, res) rfl ⟨hx, hb, hml, hown', hts, hK, hSE, rfl, Nat.zero_le _, Nat.zero_le _, fun _ h => h, fun _ _ h => h, rfl⟩ ?_ s.heap [] _ ⟨hP, ⟨hD0.1, wsW_A w M⟩, va_S.rf⟩ hl hE
  intro H locs ls M1 pc hW hres hd
  exact W.vret hx hb hr (fun t ht _ => ⟨⟨M1, rfl, hres, by rw [ht]; exact hW.1, ⟨hW.2.1.1, fun _ _ _ => trivial⟩⟩, hW.2.2.F ht⟩) hW.2.2.2.2 hd hlocks
end JR
end
section
theorem zz_try : (1:Nat) = 1 := rfl
end
