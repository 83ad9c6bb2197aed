def BIG : List Cond := lw_tbl.filter goodWord
theorem TP {w : Cond} (h : w ∈ k2_sels lw_privs) (g : goodWord w = true) : w ∈ BIG := List.mem_filter.mpr ⟨List.mem_append_left _ h, g⟩
theorem T1 {w : Cond} (h : w ∈ tables_1_1) (g : goodWord w = true) : w ∈ BIG := List.mem_filter.mpr ⟨List.mem_append_right _ (List.mem_append_left _ h), g⟩
theorem U1 {w : Cond} (h : w ∈ tables_1_1) : w ∈ lw_tbl := List.mem_append_right _ (List.mem_append_left _ h)
theorem T2 {w : Cond} (h : w ∈ tables_1_2) (g : goodWord w = true) : w ∈ BIG := List.mem_filter.mpr ⟨List.mem_append_right _ (List.mem_append_right _ (List.mem_append_left _ h)), g⟩
theorem U2 {w : Cond} (h : w ∈ tables_1_2) : w ∈ lw_tbl := List.mem_append_right _ (List.mem_append_right _ (List.mem_append_left _ h))
theorem T3 {w : Cond} (h : w ∈ tables_1_3) (g : goodWord w = true) : w ∈ BIG := List.mem_filter.mpr ⟨List.mem_append_right _ (List.mem_append_right _ (List.mem_append_right _ (List.mem_append_left _ h))), g⟩
theorem U3 {w : Cond} (h : w ∈ tables_1_3) : w ∈ lw_tbl := List.mem_append_right _ (List.mem_append_right _ (List.mem_append_right _ (List.mem_append_left _ h)))
theorem T4 {w : Cond} (h : w ∈ tables_1_4) (g : goodWord w = true) : w ∈ BIG := List.mem_filter.mpr ⟨List.mem_append_right _ (List.mem_append_right _ (List.mem_append_right _ (List.mem_append_right _ (List.mem_append_left _ h)))), g⟩
theorem U4 {w : Cond} (h : w ∈ tables_1_4) : w ∈ lw_tbl := List.mem_append_right _ (List.mem_append_right _ (List.mem_append_right _ (List.mem_append_right _ (List.mem_append_left _ h))))
theorem T5 {w : Cond} (h : w ∈ tables_1_5) (g : goodWord w = true) : w ∈ BIG := List.mem_filter.mpr ⟨List.mem_append_right _ (List.mem_append_right _ (List.mem_append_right _ (List.mem_append_right _ (List.mem_append_right _ (List.mem_append_left _ h))))), g⟩
theorem U5 {w : Cond} (h : w ∈ tables_1_5) : w ∈ lw_tbl := List.mem_append_right _ (List.mem_append_right _ (List.mem_append_right _ (List.mem_append_right _ (List.mem_append_right _ (List.mem_append_left _ h)))))
theorem T6 {w : Cond} (h : w ∈ tables_1_6) (g : goodWord w = true) : w ∈ BIG := List.mem_filter.mpr ⟨List.mem_append_right _ (List.mem_append_right _ (List.mem_append_right _ (List.mem_append_right _ (List.mem_append_right _ (List.mem_append_right _ h))))), g⟩
theorem U6 {w : Cond} (h : w ∈ tables_1_6) : w ∈ lw_tbl := List.mem_append_right _ (List.mem_append_right _ (List.mem_append_right _ (List.mem_append_right _ (List.mem_append_right _ (List.mem_append_right _ h)))))
theorem W1_0 : Cond.initialized RL ∈ BIG := T1 (List.mem_of_getElem? (i := 0) rfl) rfl
theorem W1_1 : Cond.initialized RX8 ∈ BIG := T1 (List.mem_of_getElem? (i := 1) rfl) rfl
theorem W1_2 : Cond.initialized RX0 ∈ BIG := T1 (List.mem_of_getElem? (i := 2) rfl) rfl
theorem W1_3 : Cond.initialized RX2 ∈ BIG := T1 (List.mem_of_getElem? (i := 3) rfl) rfl
theorem W1_4 : Cond.initialized RX4 ∈ BIG := T1 (List.mem_of_getElem? (i := 4) rfl) rfl
theorem W1_5 : Cond.initialized RX3 ∈ BIG := T1 (List.mem_of_getElem? (i := 5) rfl) rfl
theorem W1_6 : Cond.initialized RX5 ∈ BIG := T1 (List.mem_of_getElem? (i := 6) rfl) rfl
theorem W1_7 : Cond.initialized RX7 ∈ BIG := T1 (List.mem_of_getElem? (i := 7) rfl) rfl
theorem W1_8 : Cond.initialized RX1 ∈ BIG := T1 (List.mem_of_getElem? (i := 8) rfl) rfl
theorem W1_9 : Cond.initialized RX6 ∈ BIG := T1 (List.mem_of_getElem? (i := 9) rfl) rfl
theorem W1_10 : Cond.initialized RX9 ∈ BIG := T1 (List.mem_of_getElem? (i := 10) rfl) rfl
theorem W1_11 : Cond.initialized RJ0 ∈ BIG := T1 (List.mem_of_getElem? (i := 11) rfl) rfl
theorem W1_12 : Cond.initialized RJ1 ∈ BIG := T1 (List.mem_of_getElem? (i := 12) rfl) rfl
theorem W1_13 : Cond.initialized RJ3 ∈ BIG := T1 (List.mem_of_getElem? (i := 13) rfl) rfl
theorem W1_14 : Cond.initialized RJ2 ∈ BIG := T1 (List.mem_of_getElem? (i := 14) rfl) rfl
theorem W1_15 : Cond.initialized RJ10 ∈ BIG := T1 (List.mem_of_getElem? (i := 15) rfl) rfl
theorem W1_16 : Cond.initialized RJ9 ∈ BIG := T1 (List.mem_of_getElem? (i := 16) rfl) rfl
theorem W1_17 : Cond.initialized RJ6 ∈ BIG := T1 (List.mem_of_getElem? (i := 17) rfl) rfl
theorem W1_18 : Cond.classLink RL 7 RX8 ∈ BIG := T1 (List.mem_of_getElem? (i := 18) rfl) rfl
theorem W1_19 : Cond.instantiable RX8 8 ∈ BIG := T1 (List.mem_of_getElem? (i := 19) rfl) rfl
theorem W1_20 : Cond.methodLink RL 9 yX8_init ∈ BIG := T1 (List.mem_of_getElem? (i := 20) rfl) rfl
theorem W1_21 : Cond.instanceMethod yX8_init ∈ BIG := T1 (List.mem_of_getElem? (i := 21) rfl) rfl
theorem W1_22 : Cond.code yX8_init cX8_init 1 (Option.none : Option Jvm.ClassFile.FieldType) ∈ BIG := T1 (List.mem_of_getElem? (i := 22) rfl) rfl
theorem W1_23 : Cond.methodLink RX8 1 objectInit ∈ BIG := T1 (List.mem_of_getElem? (i := 23) rfl) rfl
theorem W1_24 : Cond.instanceMethod objectInit ∈ BIG := T1 (List.mem_of_getElem? (i := 24) rfl) rfl
theorem W1_25 : Cond.code objectInit object_method_1_code 1 (Option.none : Option Jvm.ClassFile.FieldType) ∈ BIG := T1 (List.mem_of_getElem? (i := 25) rfl) rfl
theorem W1_26 : Cond.classLink RX8 7 RX0 ∈ BIG := T1 (List.mem_of_getElem? (i := 26) rfl) rfl
theorem W1_27 : Cond.instantiable RX0 5 ∈ BIG := T1 (List.mem_of_getElem? (i := 27) rfl) rfl
theorem W1_28 : Cond.methodLinkNest RX8 9 yX0_init "ChairTooFew" ∈ lw_tbl := U1 (List.mem_of_getElem? (i := 28) rfl)
theorem W1_29 : Cond.instanceMethod yX0_init ∈ BIG := T1 (List.mem_of_getElem? (i := 29) rfl) rfl
theorem W1_30 : Cond.code yX0_init cX0_init 1 (Option.none : Option Jvm.ClassFile.FieldType) ∈ BIG := T1 (List.mem_of_getElem? (i := 30) rfl) rfl
theorem W1_31 : Cond.methodLink RX0 3 objectInit ∈ BIG := T1 (List.mem_of_getElem? (i := 31) rfl) rfl
theorem W1_32 : Cond.classLink RX0 9 RX2 ∈ BIG := T1 (List.mem_of_getElem? (i := 32) rfl) rfl
theorem W1_33 : Cond.instantiable RX2 10 ∈ BIG := T1 (List.mem_of_getElem? (i := 33) rfl) rfl
theorem W1_34 : Cond.methodLink RX0 11 yX2_init ∈ BIG := T1 (List.mem_of_getElem? (i := 34) rfl) rfl
theorem W1_35 : Cond.instanceMethod yX2_init ∈ BIG := T1 (List.mem_of_getElem? (i := 35) rfl) rfl
theorem W1_36 : Cond.code yX2_init cX2_init 2 (Option.none : Option Jvm.ClassFile.FieldType) ∈ BIG := T1 (List.mem_of_getElem? (i := 36) rfl) rfl
theorem W1_37 : Cond.methodLink RX2 3 objectInit ∈ BIG := T1 (List.mem_of_getElem? (i := 37) rfl) rfl
theorem W1_38 : Cond.classLink RX2 9 RX4 ∈ BIG := T1 (List.mem_of_getElem? (i := 38) rfl) rfl
theorem W1_39 : Cond.instantiable RX4 4 ∈ BIG := T1 (List.mem_of_getElem? (i := 39) rfl) rfl
theorem W1_40 : Cond.methodLinkNest RX2 11 yX4_init "ChairTooFew" ∈ lw_tbl := U1 (List.mem_of_getElem? (i := 40) rfl)
theorem W1_41 : Cond.instanceMethod yX4_init ∈ BIG := T1 (List.mem_of_getElem? (i := 41) rfl) rfl
theorem W1_42 : Cond.code yX4_init cX4_init 1 (Option.none : Option Jvm.ClassFile.FieldType) ∈ BIG := T1 (List.mem_of_getElem? (i := 42) rfl) rfl
theorem W1_43 : Cond.methodLink RX4 3 objectInit ∈ BIG := T1 (List.mem_of_getElem? (i := 43) rfl) rfl
theorem W1_44 : Cond.fieldLink RX4 9 "ChairTooFew$Ring" "places" "I" ∈ BIG := T1 (List.mem_of_getElem? (i := 44) rfl) rfl
theorem W1_45 : Cond.fieldLink RX6 119 "ChairTooFew$Ring" "places" "I" ∈ BIG := T1 (List.mem_of_getElem? (i := 45) rfl) rfl
theorem W1_46 : Cond.fieldLink RX2 130 "ChairTooFew$Ring" "places" "I" ∈ BIG := T1 (List.mem_of_getElem? (i := 46) rfl) rfl
theorem W1_47 : Cond.fieldLink RX8 249 "ChairTooFew$Ring" "places" "I" ∈ BIG := T1 (List.mem_of_getElem? (i := 47) rfl) rfl
theorem W1_48 : Cond.fieldLink RX4 15 "ChairTooFew$Ring" "chairs" "I" ∈ BIG := T1 (List.mem_of_getElem? (i := 48) rfl) rfl
theorem W1_49 : Cond.fieldLink RX5 68 "ChairTooFew$Ring" "chairs" "I" ∈ BIG := T1 (List.mem_of_getElem? (i := 49) rfl) rfl
theorem W1_50 : Cond.fieldLink RX2 87 "ChairTooFew$Ring" "chairs" "I" ∈ BIG := T1 (List.mem_of_getElem? (i := 50) rfl) rfl
theorem W1_51 : Cond.fieldLink RX6 111 "ChairTooFew$Ring" "chairs" "I" ∈ BIG := T1 (List.mem_of_getElem? (i := 51) rfl) rfl
theorem W1_52 : Cond.fieldLink RX8 252 "ChairTooFew$Ring" "chairs" "I" ∈ BIG := T1 (List.mem_of_getElem? (i := 52) rfl) rfl
theorem W1_53 : Cond.fieldLink RX4 18 "ChairTooFew$Ring" "chairPlaces" "[I" ∈ BIG := T1 (List.mem_of_getElem? (i := 53) rfl) rfl
theorem W1_54 : Cond.fieldLink RX4 22 "ChairTooFew$Ring" "taken" "[Z" ∈ BIG := T1 (List.mem_of_getElem? (i := 54) rfl) rfl
theorem W1_55 : Cond.lays RX4 "ChairTooFew$Ring" "places" "I" ∈ BIG := T1 (List.mem_of_getElem? (i := 55) rfl) rfl
theorem W1_57 : Cond.lays RX4 "ChairTooFew$Ring" "chairs" "I" ∈ BIG := T1 (List.mem_of_getElem? (i := 57) rfl) rfl
theorem W1_59 : Cond.laysFinal RX4 "ChairTooFew$Ring" "chairPlaces" "[I" ∈ BIG := T1 (List.mem_of_getElem? (i := 59) rfl) rfl
theorem W1_61 : Cond.laysFinal RX4 "ChairTooFew$Ring" "taken" "[Z" ∈ BIG := T1 (List.mem_of_getElem? (i := 61) rfl) rfl
theorem W1_64 : Cond.arrayClass Jvm.ClassFile.FieldType.int ∈ BIG := T1 (List.mem_of_getElem? (i := 64) rfl) rfl
theorem W1_65 : Cond.arrayClass Jvm.ClassFile.FieldType.boolean ∈ BIG := T1 (List.mem_of_getElem? (i := 65) rfl) rfl
theorem W1_66 : Cond.classLink RX2 18 RX3 ∈ BIG := T1 (List.mem_of_getElem? (i := 66) rfl) rfl
theorem W1_67 : Cond.instantiable RX3 3 ∈ BIG := T1 (List.mem_of_getElem? (i := 67) rfl) rfl
theorem W1_68 : Cond.methodLinkNest RX2 20 yX3_init "ChairTooFew" ∈ lw_tbl := U1 (List.mem_of_getElem? (i := 68) rfl)
theorem W1_69 : Cond.instanceMethod yX3_init ∈ BIG := T1 (List.mem_of_getElem? (i := 69) rfl) rfl
theorem W1_70 : Cond.code yX3_init cX3_init 1 (Option.none : Option Jvm.ClassFile.FieldType) ∈ BIG := T1 (List.mem_of_getElem? (i := 70) rfl) rfl
theorem W1_71 : Cond.methodLink RX3 3 objectInit ∈ BIG := T1 (List.mem_of_getElem? (i := 71) rfl) rfl
theorem W1_72 : Cond.fieldLink RX3 11 "ChairTooFew$Player" "kind" "I" ∈ BIG := T1 (List.mem_of_getElem? (i := 72) rfl) rfl
theorem W1_73 : Cond.fieldLink RX8 112 "ChairTooFew$Player" "kind" "I" ∈ BIG := T1 (List.mem_of_getElem? (i := 73) rfl) rfl
theorem W1_74 : Cond.fieldLink RX0 119 "ChairTooFew$Player" "kind" "I" ∈ BIG := T1 (List.mem_of_getElem? (i := 74) rfl) rfl
theorem W1_75 : Cond.fieldLink RX2 147 "ChairTooFew$Player" "kind" "I" ∈ BIG := T1 (List.mem_of_getElem? (i := 75) rfl) rfl
theorem W1_76 : Cond.fieldLink RX6 145 "ChairTooFew$Player" "kind" "I" ∈ BIG := T1 (List.mem_of_getElem? (i := 76) rfl) rfl
theorem W1_77 : Cond.fieldLink RX3 15 "ChairTooFew$Player" "figure" "I" ∈ BIG := T1 (List.mem_of_getElem? (i := 77) rfl) rfl
theorem W1_78 : Cond.fieldLink RX8 115 "ChairTooFew$Player" "figure" "I" ∈ BIG := T1 (List.mem_of_getElem? (i := 78) rfl) rfl
theorem W1_79 : Cond.fieldLink RX2 150 "ChairTooFew$Player" "figure" "I" ∈ BIG := T1 (List.mem_of_getElem? (i := 79) rfl) rfl
theorem W1_80 : Cond.fieldLink RX6 148 "ChairTooFew$Player" "figure" "I" ∈ BIG := T1 (List.mem_of_getElem? (i := 80) rfl) rfl
theorem W1_81 : Cond.fieldLink RX3 18 "ChairTooFew$Player" "z" "I" ∈ BIG := T1 (List.mem_of_getElem? (i := 81) rfl) rfl
theorem W1_82 : Cond.fieldLink RX0 101 "ChairTooFew$Player" "z" "I" ∈ BIG := T1 (List.mem_of_getElem? (i := 82) rfl) rfl
theorem W1_83 : Cond.fieldLink RX8 124 "ChairTooFew$Player" "z" "I" ∈ BIG := T1 (List.mem_of_getElem? (i := 83) rfl) rfl
theorem W1_84 : Cond.lays RX3 "ChairTooFew$Player" "kind" "I" ∈ BIG := T1 (List.mem_of_getElem? (i := 84) rfl) rfl
theorem W1_86 : Cond.lays RX3 "ChairTooFew$Player" "figure" "I" ∈ BIG := T1 (List.mem_of_getElem? (i := 86) rfl) rfl
theorem W1_88 : Cond.lays RX3 "ChairTooFew$Player" "z" "I" ∈ BIG := T1 (List.mem_of_getElem? (i := 88) rfl) rfl
theorem W1_91 : Cond.classLink RX2 25 RX5 ∈ BIG := T1 (List.mem_of_getElem? (i := 91) rfl) rfl
theorem W1_92 : Cond.instantiable RX5 5 ∈ BIG := T1 (List.mem_of_getElem? (i := 92) rfl) rfl
theorem W1_93 : Cond.methodLinkNest RX2 27 yX5_init "ChairTooFew" ∈ lw_tbl := U1 (List.mem_of_getElem? (i := 93) rfl)
theorem W1_94 : Cond.instanceMethod yX5_init ∈ BIG := T1 (List.mem_of_getElem? (i := 94) rfl) rfl
theorem W1_95 : Cond.code yX5_init cX5_init 1 (Option.none : Option Jvm.ClassFile.FieldType) ∈ BIG := T1 (List.mem_of_getElem? (i := 95) rfl) rfl
theorem W1_96 : Cond.methodLink RX5 3 objectInit ∈ BIG := T1 (List.mem_of_getElem? (i := 96) rfl) rfl
theorem W1_97 : Cond.fieldLink RX5 9 "ChairTooFew$Seating" "seats" "[I" ∈ BIG := T1 (List.mem_of_getElem? (i := 97) rfl) rfl
theorem W1_98 : Cond.fieldLink RX5 15 "ChairTooFew$Seating" "hastes" "[I" ∈ BIG := T1 (List.mem_of_getElem? (i := 98) rfl) rfl
theorem W1_99 : Cond.fieldLink RX5 18 "ChairTooFew$Seating" "free" "[Z" ∈ BIG := T1 (List.mem_of_getElem? (i := 99) rfl) rfl
theorem W1_100 : Cond.fieldLink RX5 22 "ChairTooFew$Seating" "walkers" "I" ∈ BIG := T1 (List.mem_of_getElem? (i := 100) rfl) rfl
theorem W1_101 : Cond.fieldLink RX5 26 "ChairTooFew$Seating" "chairs" "I" ∈ BIG := T1 (List.mem_of_getElem? (i := 101) rfl) rfl
theorem W1_102 : Cond.laysFinal RX5 "ChairTooFew$Seating" "seats" "[I" ∈ BIG := T1 (List.mem_of_getElem? (i := 102) rfl) rfl
theorem W1_104 : Cond.laysFinal RX5 "ChairTooFew$Seating" "hastes" "[I" ∈ BIG := T1 (List.mem_of_getElem? (i := 104) rfl) rfl
theorem W1_106 : Cond.laysFinal RX5 "ChairTooFew$Seating" "free" "[Z" ∈ BIG := T1 (List.mem_of_getElem? (i := 106) rfl) rfl
theorem W1_108 : Cond.lays RX5 "ChairTooFew$Seating" "walkers" "I" ∈ BIG := T1 (List.mem_of_getElem? (i := 108) rfl) rfl
theorem W1_110 : Cond.lays RX5 "ChairTooFew$Seating" "chairs" "I" ∈ BIG := T1 (List.mem_of_getElem? (i := 110) rfl) rfl
theorem W1_113 : Cond.classLink RX2 32 RX7 ∈ BIG := T1 (List.mem_of_getElem? (i := 113) rfl) rfl
theorem W1_115 : Cond.instantiable RX7 9 ∈ BIG := T1 (List.mem_of_getElem? (i := 115) rfl) rfl
theorem W1_116 : Cond.methodLinkNest RX2 59 yX7_init "ChairTooFew" ∈ lw_tbl := U1 (List.mem_of_getElem? (i := 116) rfl)
theorem W1_117 : Cond.instanceMethod yX7_init ∈ BIG := T1 (List.mem_of_getElem? (i := 117) rfl) rfl
theorem W1_118 : Cond.code yX7_init cX7_init 1 (Option.none : Option Jvm.ClassFile.FieldType) ∈ BIG := T1 (List.mem_of_getElem? (i := 118) rfl) rfl
theorem W1_119 : Cond.methodLink RX7 1 objectInit ∈ BIG := T1 (List.mem_of_getElem? (i := 119) rfl) rfl
theorem W1_120 : Cond.fieldLink RX7 7 "ChairTooFew$Walker" "place" "I" ∈ BIG := T1 (List.mem_of_getElem? (i := 120) rfl) rfl
theorem W1_121 : Cond.fieldLink RX5 69 "ChairTooFew$Walker" "place" "I" ∈ BIG := T1 (List.mem_of_getElem? (i := 121) rfl) rfl
theorem W1_122 : Cond.fieldLink RX8 142 "ChairTooFew$Walker" "place" "I" ∈ BIG := T1 (List.mem_of_getElem? (i := 122) rfl) rfl
theorem W1_123 : Cond.fieldLink RX0 130 "ChairTooFew$Walker" "place" "I" ∈ BIG := T1 (List.mem_of_getElem? (i := 123) rfl) rfl
theorem W1_124 : Cond.fieldLink RX2 121 "ChairTooFew$Walker" "place" "I" ∈ BIG := T1 (List.mem_of_getElem? (i := 124) rfl) rfl
theorem W1_125 : Cond.fieldLink RX7 13 "ChairTooFew$Walker" "parts" "I" ∈ BIG := T1 (List.mem_of_getElem? (i := 125) rfl) rfl
theorem W1_126 : Cond.fieldLink RX2 118 "ChairTooFew$Walker" "parts" "I" ∈ BIG := T1 (List.mem_of_getElem? (i := 126) rfl) rfl
theorem W1_127 : Cond.fieldLink RX7 16 "ChairTooFew$Walker" "in" "Z" ∈ BIG := T1 (List.mem_of_getElem? (i := 127) rfl) rfl
theorem W1_128 : Cond.fieldLink RX2 76 "ChairTooFew$Walker" "in" "Z" ∈ BIG := T1 (List.mem_of_getElem? (i := 128) rfl) rfl
theorem W1_129 : Cond.fieldLink RX5 76 "ChairTooFew$Walker" "in" "Z" ∈ BIG := T1 (List.mem_of_getElem? (i := 129) rfl) rfl
theorem W1_130 : Cond.fieldLink RX7 20 "ChairTooFew$Walker" "kind" "I" ∈ BIG := T1 (List.mem_of_getElem? (i := 130) rfl) rfl
theorem W1_131 : Cond.fieldLink RX5 42 "ChairTooFew$Walker" "kind" "I" ∈ BIG := T1 (List.mem_of_getElem? (i := 131) rfl) rfl
theorem W1_132 : Cond.fieldLink RX7 23 "ChairTooFew$Walker" "fast" "I" ∈ BIG := T1 (List.mem_of_getElem? (i := 132) rfl) rfl
theorem W1_133 : Cond.fieldLink RX2 127 "ChairTooFew$Walker" "fast" "I" ∈ BIG := T1 (List.mem_of_getElem? (i := 133) rfl) rfl
theorem W1_134 : Cond.fieldLink RX7 26 "ChairTooFew$Walker" "slow" "I" ∈ BIG := T1 (List.mem_of_getElem? (i := 134) rfl) rfl
theorem W1_135 : Cond.fieldLink RX0 57 "ChairTooFew$Walker" "slow" "I" ∈ BIG := T1 (List.mem_of_getElem? (i := 135) rfl) rfl
theorem W1_136 : Cond.fieldLink RX2 124 "ChairTooFew$Walker" "slow" "I" ∈ BIG := T1 (List.mem_of_getElem? (i := 136) rfl) rfl
theorem W1_137 : Cond.fieldLink RX8 191 "ChairTooFew$Walker" "slow" "I" ∈ BIG := T1 (List.mem_of_getElem? (i := 137) rfl) rfl
theorem W1_138 : Cond.fieldLink RX7 29 "ChairTooFew$Walker" "reach" "I" ∈ BIG := T1 (List.mem_of_getElem? (i := 138) rfl) rfl
theorem W1_139 : Cond.fieldLink RX5 80 "ChairTooFew$Walker" "reach" "I" ∈ BIG := T1 (List.mem_of_getElem? (i := 139) rfl) rfl
theorem W1_140 : Cond.fieldLink RX0 138 "ChairTooFew$Walker" "reach" "I" ∈ BIG := T1 (List.mem_of_getElem? (i := 140) rfl) rfl
theorem W1_141 : Cond.fieldLink RX7 32 "ChairTooFew$Walker" "size" "I" ∈ BIG := T1 (List.mem_of_getElem? (i := 141) rfl) rfl
theorem W1_142 : Cond.fieldLink RX7 35 "ChairTooFew$Walker" "manners" "I" ∈ BIG := T1 (List.mem_of_getElem? (i := 142) rfl) rfl
theorem W1_143 : Cond.lays RX7 "ChairTooFew$Walker" "place" "I" ∈ BIG := T1 (List.mem_of_getElem? (i := 143) rfl) rfl
theorem W1_145 : Cond.lays RX7 "ChairTooFew$Walker" "parts" "I" ∈ BIG := T1 (List.mem_of_getElem? (i := 145) rfl) rfl
theorem W1_147 : Cond.lays RX7 "ChairTooFew$Walker" "in" "Z" ∈ BIG := T1 (List.mem_of_getElem? (i := 147) rfl) rfl
theorem W1_149 : Cond.lays RX7 "ChairTooFew$Walker" "kind" "I" ∈ BIG := T1 (List.mem_of_getElem? (i := 149) rfl) rfl
theorem W1_151 : Cond.lays RX7 "ChairTooFew$Walker" "fast" "I" ∈ BIG := T1 (List.mem_of_getElem? (i := 151) rfl) rfl
theorem W1_153 : Cond.lays RX7 "ChairTooFew$Walker" "slow" "I" ∈ BIG := T1 (List.mem_of_getElem? (i := 153) rfl) rfl
theorem W1_155 : Cond.lays RX7 "ChairTooFew$Walker" "reach" "I" ∈ BIG := T1 (List.mem_of_getElem? (i := 155) rfl) rfl
theorem W1_157 : Cond.lays RX7 "ChairTooFew$Walker" "size" "I" ∈ BIG := T1 (List.mem_of_getElem? (i := 157) rfl) rfl
theorem W1_159 : Cond.lays RX7 "ChairTooFew$Walker" "manners" "I" ∈ BIG := T1 (List.mem_of_getElem? (i := 159) rfl) rfl
theorem W1_162 : Cond.fieldLink RX2 12 "ChairTooFew$Party" "ring" "LChairTooFew$Ring;" ∈ BIG := T1 (List.mem_of_getElem? (i := 162) rfl) rfl
theorem W1_163 : Cond.fieldLink RX5 64 "ChairTooFew$Party" "ring" "LChairTooFew$Ring;" ∈ BIG := T1 (List.mem_of_getElem? (i := 163) rfl) rfl
theorem W1_164 : Cond.fieldLink RX8 130 "ChairTooFew$Party" "ring" "LChairTooFew$Ring;" ∈ BIG := T1 (List.mem_of_getElem? (i := 164) rfl) rfl
theorem W1_165 : Cond.fieldLink RX0 122 "ChairTooFew$Party" "ring" "LChairTooFew$Ring;" ∈ BIG := T1 (List.mem_of_getElem? (i := 165) rfl) rfl
theorem W1_166 : Cond.fieldLink RX6 105 "ChairTooFew$Party" "ring" "LChairTooFew$Ring;" ∈ BIG := T1 (List.mem_of_getElem? (i := 166) rfl) rfl
theorem W1_167 : Cond.fieldLink RX2 21 "ChairTooFew$Party" "player" "LChairTooFew$Player;" ∈ BIG := T1 (List.mem_of_getElem? (i := 167) rfl) rfl
theorem W1_168 : Cond.fieldLink RX8 103 "ChairTooFew$Party" "player" "LChairTooFew$Player;" ∈ BIG := T1 (List.mem_of_getElem? (i := 168) rfl) rfl
theorem W1_169 : Cond.fieldLink RX0 97 "ChairTooFew$Party" "player" "LChairTooFew$Player;" ∈ BIG := T1 (List.mem_of_getElem? (i := 169) rfl) rfl
theorem W1_170 : Cond.fieldLink RX6 135 "ChairTooFew$Party" "player" "LChairTooFew$Player;" ∈ BIG := T1 (List.mem_of_getElem? (i := 170) rfl) rfl
theorem W1_171 : Cond.fieldLink RX2 28 "ChairTooFew$Party" "seating" "LChairTooFew$Seating;" ∈ BIG := T1 (List.mem_of_getElem? (i := 171) rfl) rfl
theorem W1_172 : Cond.fieldLink RX0 65 "ChairTooFew$Party" "seating" "LChairTooFew$Seating;" ∈ BIG := T1 (List.mem_of_getElem? (i := 172) rfl) rfl
theorem W1_173 : Cond.fieldLink RX8 168 "ChairTooFew$Party" "seating" "LChairTooFew$Seating;" ∈ BIG := T1 (List.mem_of_getElem? (i := 173) rfl) rfl
theorem W1_174 : Cond.fieldLink RX2 34 "ChairTooFew$Party" "walkers" "[LChairTooFew$Walker;" ∈ BIG := T1 (List.mem_of_getElem? (i := 174) rfl) rfl
theorem W1_175 : Cond.fieldLink RX5 37 "ChairTooFew$Party" "walkers" "[LChairTooFew$Walker;" ∈ BIG := T1 (List.mem_of_getElem? (i := 175) rfl) rfl
theorem W1_176 : Cond.fieldLink RX0 53 "ChairTooFew$Party" "walkers" "[LChairTooFew$Walker;" ∈ BIG := T1 (List.mem_of_getElem? (i := 176) rfl) rfl
theorem W1_177 : Cond.fieldLink RX8 93 "ChairTooFew$Party" "walkers" "[LChairTooFew$Walker;" ∈ BIG := T1 (List.mem_of_getElem? (i := 177) rfl) rfl
theorem W1_178 : Cond.fieldLink RX2 38 "ChairTooFew$Party" "stoodOn" "[Z" ∈ BIG := T1 (List.mem_of_getElem? (i := 178) rfl) rfl
theorem W1_179 : Cond.fieldLink RX2 42 "ChairTooFew$Party" "walkerCount" "I" ∈ BIG := T1 (List.mem_of_getElem? (i := 179) rfl) rfl
theorem W1_180 : Cond.fieldLink RX5 61 "ChairTooFew$Party" "walkerCount" "I" ∈ BIG := T1 (List.mem_of_getElem? (i := 180) rfl) rfl
theorem W1_181 : Cond.fieldLink RX6 116 "ChairTooFew$Party" "walkerCount" "I" ∈ BIG := T1 (List.mem_of_getElem? (i := 181) rfl) rfl
theorem W1_182 : Cond.fieldLink RX8 246 "ChairTooFew$Party" "walkerCount" "I" ∈ BIG := T1 (List.mem_of_getElem? (i := 182) rfl) rfl
theorem W1_183 : Cond.fieldLink RX2 46 "ChairTooFew$Party" "form" "I" ∈ BIG := T1 (List.mem_of_getElem? (i := 183) rfl) rfl
theorem W1_184 : Cond.fieldLink RX8 121 "ChairTooFew$Party" "form" "I" ∈ BIG := T1 (List.mem_of_getElem? (i := 184) rfl) rfl
theorem W1_185 : Cond.fieldLink RX0 106 "ChairTooFew$Party" "form" "I" ∈ BIG := T1 (List.mem_of_getElem? (i := 185) rfl) rfl
theorem W1_186 : Cond.fieldLink RX6 151 "ChairTooFew$Party" "form" "I" ∈ BIG := T1 (List.mem_of_getElem? (i := 186) rfl) rfl
theorem W1_187 : Cond.fieldLink RX2 49 "ChairTooFew$Party" "tenths" "I" ∈ BIG := T1 (List.mem_of_getElem? (i := 187) rfl) rfl
theorem W1_188 : Cond.fieldLink RX8 258 "ChairTooFew$Party" "tenths" "I" ∈ BIG := T1 (List.mem_of_getElem? (i := 188) rfl) rfl
theorem W1_189 : Cond.fieldLink RX2 52 "ChairTooFew$Party" "rounds" "I" ∈ BIG := T1 (List.mem_of_getElem? (i := 189) rfl) rfl
theorem W1_190 : Cond.fieldLink RX8 261 "ChairTooFew$Party" "rounds" "I" ∈ BIG := T1 (List.mem_of_getElem? (i := 190) rfl) rfl
theorem W1_191 : Cond.fieldLink RX2 55 "ChairTooFew$Party" "ended" "Z" ∈ BIG := T1 (List.mem_of_getElem? (i := 191) rfl) rfl
theorem W1_192 : Cond.fieldLink RX8 162 "ChairTooFew$Party" "ended" "Z" ∈ BIG := T1 (List.mem_of_getElem? (i := 192) rfl) rfl
theorem W1_193 : Cond.fieldLink RX0 155 "ChairTooFew$Party" "ended" "Z" ∈ BIG := T1 (List.mem_of_getElem? (i := 193) rfl) rfl
theorem W1_194 : Cond.laysFinal RX2 "ChairTooFew$Party" "ring" "LChairTooFew$Ring;" ∈ BIG := T1 (List.mem_of_getElem? (i := 194) rfl) rfl
theorem W1_196 : Cond.laysFinal RX2 "ChairTooFew$Party" "player" "LChairTooFew$Player;" ∈ BIG := T1 (List.mem_of_getElem? (i := 196) rfl) rfl
theorem W1_198 : Cond.laysFinal RX2 "ChairTooFew$Party" "seating" "LChairTooFew$Seating;" ∈ BIG := T1 (List.mem_of_getElem? (i := 198) rfl) rfl
theorem W1_200 : Cond.laysFinal RX2 "ChairTooFew$Party" "walkers" "[LChairTooFew$Walker;" ∈ BIG := T1 (List.mem_of_getElem? (i := 200) rfl) rfl
theorem W1_202 : Cond.laysFinal RX2 "ChairTooFew$Party" "stoodOn" "[Z" ∈ BIG := T1 (List.mem_of_getElem? (i := 202) rfl) rfl
theorem W1_204 : Cond.lays RX2 "ChairTooFew$Party" "walkerCount" "I" ∈ BIG := T1 (List.mem_of_getElem? (i := 204) rfl) rfl
theorem W1_206 : Cond.lays RX2 "ChairTooFew$Party" "form" "I" ∈ BIG := T1 (List.mem_of_getElem? (i := 206) rfl) rfl
theorem W1_208 : Cond.lays RX2 "ChairTooFew$Party" "tenths" "I" ∈ BIG := T1 (List.mem_of_getElem? (i := 208) rfl) rfl
theorem W1_210 : Cond.lays RX2 "ChairTooFew$Party" "rounds" "I" ∈ BIG := T1 (List.mem_of_getElem? (i := 210) rfl) rfl
theorem W1_212 : Cond.lays RX2 "ChairTooFew$Party" "ended" "Z" ∈ BIG := T1 (List.mem_of_getElem? (i := 212) rfl) rfl
theorem W1_215 : Cond.fieldLink RX0 12 "ChairTooFew$Mind" "real" "LChairTooFew$Party;" ∈ BIG := T1 (List.mem_of_getElem? (i := 215) rfl) rfl
theorem W1_216 : Cond.fieldLink RX8 16 "ChairTooFew$Mind" "real" "LChairTooFew$Party;" ∈ BIG := T1 (List.mem_of_getElem? (i := 216) rfl) rfl
theorem W1_217 : Cond.fieldLink RX0 18 "ChairTooFew$Mind" "thought" "LChairTooFew$Party;" ∈ BIG := T1 (List.mem_of_getElem? (i := 217) rfl) rfl
theorem W1_218 : Cond.fieldLink RX0 21 "ChairTooFew$Mind" "times" "[I" ∈ BIG := T1 (List.mem_of_getElem? (i := 218) rfl) rfl
theorem W1_219 : Cond.fieldLink RX0 25 "ChairTooFew$Mind" "tenthsAhead" "I" ∈ BIG := T1 (List.mem_of_getElem? (i := 219) rfl) rfl
theorem W1_220 : Cond.fieldLink RX0 29 "ChairTooFew$Mind" "roundsAhead" "I" ∈ BIG := T1 (List.mem_of_getElem? (i := 220) rfl) rfl
theorem W1_221 : Cond.laysFinal RX0 "ChairTooFew$Mind" "real" "LChairTooFew$Party;" ∈ BIG := T1 (List.mem_of_getElem? (i := 221) rfl) rfl
theorem W1_223 : Cond.laysFinal RX0 "ChairTooFew$Mind" "thought" "LChairTooFew$Party;" ∈ BIG := T1 (List.mem_of_getElem? (i := 223) rfl) rfl
theorem W1_225 : Cond.laysFinal RX0 "ChairTooFew$Mind" "times" "[I" ∈ BIG := T1 (List.mem_of_getElem? (i := 225) rfl) rfl
theorem W1_227 : Cond.lays RX0 "ChairTooFew$Mind" "tenthsAhead" "I" ∈ BIG := T1 (List.mem_of_getElem? (i := 227) rfl) rfl
theorem W1_229 : Cond.lays RX0 "ChairTooFew$Mind" "roundsAhead" "I" ∈ BIG := T1 (List.mem_of_getElem? (i := 229) rfl) rfl
theorem W1_232 : Cond.classLink RX8 21 RX2 ∈ BIG := T1 (List.mem_of_getElem? (i := 232) rfl) rfl
theorem W1_233 : Cond.methodLink RX8 23 yX2_init ∈ BIG := T1 (List.mem_of_getElem? (i := 233) rfl) rfl
theorem W1_234 : Cond.classLink RX8 27 RX1 ∈ BIG := T1 (List.mem_of_getElem? (i := 234) rfl) rfl
theorem W1_235 : Cond.instantiable RX1 2 ∈ BIG := T1 (List.mem_of_getElem? (i := 235) rfl) rfl
theorem W1_236 : Cond.methodLink RX8 29 yX1_init ∈ BIG := T1 (List.mem_of_getElem? (i := 236) rfl) rfl
theorem W1_237 : Cond.instanceMethod yX1_init ∈ BIG := T1 (List.mem_of_getElem? (i := 237) rfl) rfl
theorem W1_238 : Cond.code yX1_init cX1_init 2 (Option.none : Option Jvm.ClassFile.FieldType) ∈ BIG := T1 (List.mem_of_getElem? (i := 238) rfl) rfl
theorem W1_239 : Cond.methodLink RX1 3 objectInit ∈ BIG := T1 (List.mem_of_getElem? (i := 239) rfl) rfl
theorem W2_0 : Cond.fieldLink RX1 15 "ChairTooFew$Numbers" "numbers" "[I" ∈ BIG := T2 (List.mem_of_getElem? (i := 0) rfl) rfl
theorem W2_1 : Cond.fieldLink RX1 9 "ChairTooFew$Numbers" "length" "I" ∈ BIG := T2 (List.mem_of_getElem? (i := 1) rfl) rfl
theorem W2_2 : Cond.fieldLink RX0 141 "ChairTooFew$Numbers" "length" "I" ∈ BIG := T2 (List.mem_of_getElem? (i := 2) rfl) rfl
theorem W2_3 : Cond.fieldLink RX8 229 "ChairTooFew$Numbers" "length" "I" ∈ BIG := T2 (List.mem_of_getElem? (i := 3) rfl) rfl
theorem W2_4 : Cond.laysFinal RX1 "ChairTooFew$Numbers" "numbers" "[I" ∈ BIG := T2 (List.mem_of_getElem? (i := 4) rfl) rfl
theorem W2_6 : Cond.lays RX1 "ChairTooFew$Numbers" "length" "I" ∈ BIG := T2 (List.mem_of_getElem? (i := 6) rfl) rfl
theorem W2_9 : Cond.classLink RX8 39 RX6 ∈ BIG := T2 (List.mem_of_getElem? (i := 9) rfl) rfl
theorem W2_10 : Cond.instantiable RX6 6 ∈ BIG := T2 (List.mem_of_getElem? (i := 10) rfl) rfl
theorem W2_11 : Cond.methodLinkNest RX8 41 yX6_init "ChairTooFew" ∈ lw_tbl := U2 (List.mem_of_getElem? (i := 11) rfl)
theorem W2_12 : Cond.instanceMethod yX6_init ∈ BIG := T2 (List.mem_of_getElem? (i := 12) rfl) rfl
theorem W2_13 : Cond.code yX6_init cX6_init 1 (Option.none : Option Jvm.ClassFile.FieldType) ∈ BIG := T2 (List.mem_of_getElem? (i := 13) rfl) rfl
theorem W2_14 : Cond.methodLink RX6 3 objectInit ∈ BIG := T2 (List.mem_of_getElem? (i := 14) rfl) rfl
theorem W2_15 : Cond.fieldLink RX6 9 "ChairTooFew$Text" "bytes" "[B" ∈ BIG := T2 (List.mem_of_getElem? (i := 15) rfl) rfl
theorem W2_16 : Cond.fieldLink RX6 15 "ChairTooFew$Text" "values" "[I" ∈ BIG := T2 (List.mem_of_getElem? (i := 16) rfl) rfl
theorem W2_17 : Cond.fieldLink RX6 19 "ChairTooFew$Text" "at" "I" ∈ BIG := T2 (List.mem_of_getElem? (i := 17) rfl) rfl
theorem W2_18 : Cond.fieldLink RX6 23 "ChairTooFew$Text" "used" "I" ∈ BIG := T2 (List.mem_of_getElem? (i := 18) rfl) rfl
theorem W2_19 : Cond.fieldLink RX6 26 "ChairTooFew$Text" "length" "I" ∈ BIG := T2 (List.mem_of_getElem? (i := 19) rfl) rfl
theorem W2_20 : Cond.fieldLink RX8 58 "ChairTooFew$Text" "length" "I" ∈ BIG := T2 (List.mem_of_getElem? (i := 20) rfl) rfl
theorem W2_21 : Cond.fieldLink RX6 29 "ChairTooFew$Text" "statements" "I" ∈ BIG := T2 (List.mem_of_getElem? (i := 21) rfl) rfl
theorem W2_22 : Cond.fieldLink RX0 46 "ChairTooFew$Text" "statements" "I" ∈ BIG := T2 (List.mem_of_getElem? (i := 22) rfl) rfl
theorem W2_23 : Cond.laysFinal RX6 "ChairTooFew$Text" "bytes" "[B" ∈ BIG := T2 (List.mem_of_getElem? (i := 23) rfl) rfl
theorem W2_25 : Cond.laysFinal RX6 "ChairTooFew$Text" "values" "[I" ∈ BIG := T2 (List.mem_of_getElem? (i := 25) rfl) rfl
theorem W2_27 : Cond.lays RX6 "ChairTooFew$Text" "at" "I" ∈ BIG := T2 (List.mem_of_getElem? (i := 27) rfl) rfl
theorem W2_29 : Cond.lays RX6 "ChairTooFew$Text" "used" "I" ∈ BIG := T2 (List.mem_of_getElem? (i := 29) rfl) rfl
theorem W2_31 : Cond.lays RX6 "ChairTooFew$Text" "length" "I" ∈ BIG := T2 (List.mem_of_getElem? (i := 31) rfl) rfl
theorem W2_33 : Cond.lays RX6 "ChairTooFew$Text" "statements" "I" ∈ BIG := T2 (List.mem_of_getElem? (i := 33) rfl) rfl
theorem W2_36 : Cond.arrayClass Jvm.ClassFile.FieldType.byte ∈ BIG := T2 (List.mem_of_getElem? (i := 36) rfl) rfl
theorem W2_37 : Cond.fieldLink RX8 10 "ChairTooFew" "mind" "LChairTooFew$Mind;" ∈ BIG := T2 (List.mem_of_getElem? (i := 37) rfl) rfl
theorem W2_38 : Cond.fieldLink RX8 20 "ChairTooFew" "real" "LChairTooFew$Party;" ∈ BIG := T2 (List.mem_of_getElem? (i := 38) rfl) rfl
theorem W2_39 : Cond.fieldLink RX8 24 "ChairTooFew" "kept" "LChairTooFew$Party;" ∈ BIG := T2 (List.mem_of_getElem? (i := 39) rfl) rfl
theorem W2_40 : Cond.fieldLink RX8 32 "ChairTooFew" "stops" "LChairTooFew$Numbers;" ∈ BIG := T2 (List.mem_of_getElem? (i := 40) rfl) rfl
theorem W2_41 : Cond.fieldLink RX8 36 "ChairTooFew" "pictures" "LChairTooFew$Numbers;" ∈ BIG := T2 (List.mem_of_getElem? (i := 41) rfl) rfl
theorem W2_42 : Cond.fieldLink RX8 42 "ChairTooFew" "text" "LChairTooFew$Text;" ∈ BIG := T2 (List.mem_of_getElem? (i := 42) rfl) rfl
theorem W2_43 : Cond.fieldLink RX8 46 "ChairTooFew" "refusals" "[I" ∈ BIG := T2 (List.mem_of_getElem? (i := 43) rfl) rfl
theorem W2_44 : Cond.fieldLink RX8 50 "ChairTooFew" "imageTaken" "Z" ∈ BIG := T2 (List.mem_of_getElem? (i := 44) rfl) rfl
theorem W2_45 : Cond.laysFinal RX8 "ChairTooFew" "mind" "LChairTooFew$Mind;" ∈ BIG := T2 (List.mem_of_getElem? (i := 45) rfl) rfl
theorem W2_47 : Cond.laysFinal RX8 "ChairTooFew" "real" "LChairTooFew$Party;" ∈ BIG := T2 (List.mem_of_getElem? (i := 47) rfl) rfl
theorem W2_49 : Cond.laysFinal RX8 "ChairTooFew" "kept" "LChairTooFew$Party;" ∈ BIG := T2 (List.mem_of_getElem? (i := 49) rfl) rfl
theorem W2_51 : Cond.laysFinal RX8 "ChairTooFew" "stops" "LChairTooFew$Numbers;" ∈ BIG := T2 (List.mem_of_getElem? (i := 51) rfl) rfl
theorem W2_53 : Cond.laysFinal RX8 "ChairTooFew" "pictures" "LChairTooFew$Numbers;" ∈ BIG := T2 (List.mem_of_getElem? (i := 53) rfl) rfl
theorem W2_55 : Cond.laysFinal RX8 "ChairTooFew" "text" "LChairTooFew$Text;" ∈ BIG := T2 (List.mem_of_getElem? (i := 55) rfl) rfl
theorem W2_57 : Cond.laysFinal RX8 "ChairTooFew" "refusals" "[I" ∈ BIG := T2 (List.mem_of_getElem? (i := 57) rfl) rfl
theorem W2_59 : Cond.lays RX8 "ChairTooFew" "imageTaken" "Z" ∈ BIG := T2 (List.mem_of_getElem? (i := 59) rfl) rfl
theorem W2_62 : Cond.methodLink RL 15 yX8_feed ∈ BIG := T2 (List.mem_of_getElem? (i := 62) rfl) rfl
theorem W2_63 : Cond.instanceMethod yX8_feed ∈ BIG := T2 (List.mem_of_getElem? (i := 63) rfl) rfl
theorem W2_64 : Cond.selects RX8 yX8_feed yX8_feed ∈ BIG := T2 (List.mem_of_getElem? (i := 64) rfl) rfl
theorem W2_65 : Cond.code yX8_feed cX8_feed 4 (Option.some Jvm.ClassFile.FieldType.int) ∈ BIG := T2 (List.mem_of_getElem? (i := 65) rfl) rfl
theorem W2_66 : Cond.methodLink RX8 54 yX8_refuse ∈ BIG := T2 (List.mem_of_getElem? (i := 66) rfl) rfl
theorem W2_68 : Cond.instanceMethod yX8_refuse ∈ BIG := T2 (List.mem_of_getElem? (i := 68) rfl) rfl
theorem W2_69 : Cond.code yX8_refuse cX8_refuse 2 (Option.some Jvm.ClassFile.FieldType.int) ∈ BIG := T2 (List.mem_of_getElem? (i := 69) rfl) rfl
theorem W2_70 : Cond.methodLink RX8 62 yX6_append ∈ BIG := T2 (List.mem_of_getElem? (i := 70) rfl) rfl
theorem W2_71 : Cond.instanceMethod yX6_append ∈ BIG := T2 (List.mem_of_getElem? (i := 71) rfl) rfl
theorem W2_72 : Cond.selects RX6 yX6_append yX6_append ∈ BIG := T2 (List.mem_of_getElem? (i := 72) rfl) rfl
theorem W2_73 : Cond.code yX6_append cX6_append 5 (Option.none : Option Jvm.ClassFile.FieldType) ∈ BIG := T2 (List.mem_of_getElem? (i := 73) rfl) rfl
theorem W2_74 : Cond.methodLink RL 20 yX8_party ∈ BIG := T2 (List.mem_of_getElem? (i := 74) rfl) rfl
theorem W2_75 : Cond.instanceMethod yX8_party ∈ BIG := T2 (List.mem_of_getElem? (i := 75) rfl) rfl
theorem W2_76 : Cond.selects RX8 yX8_party yX8_party ∈ BIG := T2 (List.mem_of_getElem? (i := 76) rfl) rfl
theorem W2_77 : Cond.code yX8_party cX8_party 2 (Option.some Jvm.ClassFile.FieldType.int) ∈ BIG := T2 (List.mem_of_getElem? (i := 77) rfl) rfl
theorem W2_78 : Cond.methodLink RX8 66 yX0_readParty ∈ BIG := T2 (List.mem_of_getElem? (i := 78) rfl) rfl
theorem W2_79 : Cond.instanceMethod yX0_readParty ∈ BIG := T2 (List.mem_of_getElem? (i := 79) rfl) rfl
theorem W2_80 : Cond.selects RX0 yX0_readParty yX0_readParty ∈ BIG := T2 (List.mem_of_getElem? (i := 80) rfl) rfl
theorem W2_81 : Cond.code yX0_readParty cX0_readParty 3 (Option.some Jvm.ClassFile.FieldType.int) ∈ BIG := T2 (List.mem_of_getElem? (i := 81) rfl) rfl
theorem W2_82 : Cond.methodLink RX0 32 yX6_firstMisfit ∈ BIG := T2 (List.mem_of_getElem? (i := 82) rfl) rfl
theorem W2_83 : Cond.instanceMethod yX6_firstMisfit ∈ BIG := T2 (List.mem_of_getElem? (i := 83) rfl) rfl
theorem W2_84 : Cond.selects RX6 yX6_firstMisfit yX6_firstMisfit ∈ BIG := T2 (List.mem_of_getElem? (i := 84) rfl) rfl
theorem W2_85 : Cond.code yX6_firstMisfit cX6_firstMisfit 2 (Option.some Jvm.ClassFile.FieldType.int) ∈ BIG := T2 (List.mem_of_getElem? (i := 85) rfl) rfl
theorem W2_86 : Cond.methodLink RX6 32 yX6_begin ∈ BIG := T2 (List.mem_of_getElem? (i := 86) rfl) rfl
theorem W2_88 : Cond.instanceMethod yX6_begin ∈ BIG := T2 (List.mem_of_getElem? (i := 88) rfl) rfl
theorem W2_89 : Cond.code yX6_begin cX6_begin 1 (Option.none : Option Jvm.ClassFile.FieldType) ∈ BIG := T2 (List.mem_of_getElem? (i := 89) rfl) rfl
theorem W2_90 : Cond.methodLink RX6 35 yX6_readStatement ∈ BIG := T2 (List.mem_of_getElem? (i := 90) rfl) rfl
theorem W2_92 : Cond.instanceMethod yX6_readStatement ∈ BIG := T2 (List.mem_of_getElem? (i := 92) rfl) rfl
theorem W2_93 : Cond.code yX6_readStatement cX6_readStatement 3 (Option.some Jvm.ClassFile.FieldType.boolean) ∈ BIG := T2 (List.mem_of_getElem? (i := 93) rfl) rfl
theorem W2_94 : Cond.methodLink RX6 39 yX6_signAhead ∈ BIG := T2 (List.mem_of_getElem? (i := 94) rfl) rfl
theorem W2_96 : Cond.instanceMethod yX6_signAhead ∈ BIG := T2 (List.mem_of_getElem? (i := 96) rfl) rfl
theorem W2_97 : Cond.code yX6_signAhead cX6_signAhead 1 (Option.some Jvm.ClassFile.FieldType.int) ∈ BIG := T2 (List.mem_of_getElem? (i := 97) rfl) rfl
theorem W2_98 : Cond.methodLink RX6 47 yX6_shapeOf ∈ BIG := T2 (List.mem_of_getElem? (i := 98) rfl) rfl
theorem W2_99 : Cond.static yX6_shapeOf ∈ BIG := T2 (List.mem_of_getElem? (i := 99) rfl) rfl
theorem W2_100 : Cond.code yX6_shapeOf cX6_shapeOf 1 (Option.some (Jvm.ClassFile.FieldType.object "java/lang/String")) ∈ BIG := T2 (List.mem_of_getElem? (i := 100) rfl) rfl
theorem W2_101 : Cond.stringRef RX6 66 "n#;" ∈ lw_tbl := U2 (List.mem_of_getElem? (i := 101) rfl)
theorem W2_102 : Cond.stringRef RX6 68 "c#;" ∈ lw_tbl := U2 (List.mem_of_getElem? (i := 102) rfl)
theorem W2_103 : Cond.stringRef RX6 70 "w#,d,#;" ∈ lw_tbl := U2 (List.mem_of_getElem? (i := 103) rfl)
theorem W2_104 : Cond.stringRef RX6 72 "pd,#;" ∈ lw_tbl := U2 (List.mem_of_getElem? (i := 104) rfl)
theorem W2_105 : Cond.stringRef RX6 74 "fd;" ∈ lw_tbl := U2 (List.mem_of_getElem? (i := 105) rfl)
theorem W2_106 : Cond.stringRef RX6 76 "" ∈ lw_tbl := U2 (List.mem_of_getElem? (i := 106) rfl)
theorem W2_107 : Cond.methodLink RX6 51 yJ0_length_8abf5 ∈ BIG := T2 (List.mem_of_getElem? (i := 107) rfl) rfl
theorem W2_108 : Cond.instanceMethod yJ0_length_8abf5 ∈ BIG := T2 (List.mem_of_getElem? (i := 108) rfl) rfl
theorem W2_109 : Cond.selects RJ0 yJ0_length_8abf5 yJ0_length_8abf5 ∈ BIG := T2 (List.mem_of_getElem? (i := 109) rfl) rfl
theorem W2_110 : Cond.code yJ0_length_8abf5 cJ0_length_8abf5 1 (Option.some Jvm.ClassFile.FieldType.int) ∈ BIG := T2 (List.mem_of_getElem? (i := 110) rfl) rfl
theorem W2_111 : Cond.methodLink RJ0 335 yJ0_coder_7d493 ∈ BIG := T2 (List.mem_of_getElem? (i := 111) rfl) rfl
theorem W2_112 : Cond.instanceMethod yJ0_coder_7d493 ∈ BIG := T2 (List.mem_of_getElem? (i := 112) rfl) rfl
theorem W2_113 : Cond.selects RJ0 yJ0_coder_7d493 yJ0_coder_7d493 ∈ BIG := T2 (List.mem_of_getElem? (i := 113) rfl) rfl
theorem W2_114 : Cond.code yJ0_coder_7d493 cJ0_coder_7d493 1 (Option.some Jvm.ClassFile.FieldType.byte) ∈ BIG := T2 (List.mem_of_getElem? (i := 114) rfl) rfl
theorem W2_115 : Cond.fieldLink RJ0 38 "java/lang/String" "COMPACT_STRINGS" "Z" ∈ BIG := T2 (List.mem_of_getElem? (i := 115) rfl) rfl
theorem W2_116 : Cond.laysStatic "java/lang/String" "COMPACT_STRINGS" "Z" ∈ lw_tbl := U2 (List.mem_of_getElem? (i := 116) rfl)
theorem W2_117 : Cond.methodLink RX6 55 yJ0_charAt_5068e ∈ BIG := T2 (List.mem_of_getElem? (i := 117) rfl) rfl
theorem W2_118 : Cond.instanceMethod yJ0_charAt_5068e ∈ BIG := T2 (List.mem_of_getElem? (i := 118) rfl) rfl
theorem W2_119 : Cond.selects RJ0 yJ0_charAt_5068e yJ0_charAt_5068e ∈ BIG := T2 (List.mem_of_getElem? (i := 119) rfl) rfl
theorem W2_120 : Cond.code yJ0_charAt_5068e cJ0_charAt_5068e 2 (Option.some Jvm.ClassFile.FieldType.char) ∈ BIG := T2 (List.mem_of_getElem? (i := 120) rfl) rfl
theorem W2_121 : Cond.methodLink RJ0 492 yJ0_isLatin1_aae02 ∈ BIG := T2 (List.mem_of_getElem? (i := 121) rfl) rfl
theorem W2_122 : Cond.instanceMethod yJ0_isLatin1_aae02 ∈ BIG := T2 (List.mem_of_getElem? (i := 122) rfl) rfl
theorem W2_123 : Cond.selects RJ0 yJ0_isLatin1_aae02 yJ0_isLatin1_aae02 ∈ BIG := T2 (List.mem_of_getElem? (i := 123) rfl) rfl
theorem W2_124 : Cond.code yJ0_isLatin1_aae02 cJ0_isLatin1_aae02 1 (Option.some Jvm.ClassFile.FieldType.boolean) ∈ BIG := T2 (List.mem_of_getElem? (i := 124) rfl) rfl
theorem W2_125 : Cond.methodLink RJ0 495 yJ1_charAt_3b067 ∈ BIG := T2 (List.mem_of_getElem? (i := 125) rfl) rfl
theorem W2_126 : Cond.static yJ1_charAt_3b067 ∈ BIG := T2 (List.mem_of_getElem? (i := 126) rfl) rfl
theorem W2_127 : Cond.code yJ1_charAt_3b067 cJ1_charAt_3b067 2 (Option.some Jvm.ClassFile.FieldType.char) ∈ BIG := T2 (List.mem_of_getElem? (i := 127) rfl) rfl
theorem W2_128 : Cond.methodLink RJ1 9 yJ0_checkIndex_df160 ∈ BIG := T2 (List.mem_of_getElem? (i := 128) rfl) rfl
theorem W2_129 : Cond.static yJ0_checkIndex_df160 ∈ BIG := T2 (List.mem_of_getElem? (i := 129) rfl) rfl
theorem W2_130 : Cond.code yJ0_checkIndex_df160 cJ0_checkIndex_df160 2 (Option.none : Option Jvm.ClassFile.FieldType) ∈ BIG := T2 (List.mem_of_getElem? (i := 130) rfl) rfl
theorem W2_131 : Cond.fieldLink RJ0 1053 "jdk/internal/util/Preconditions" "SIOOBE_FORMATTER" "Ljava/util/function/BiFunction;" ∈ BIG := T2 (List.mem_of_getElem? (i := 131) rfl) rfl
theorem W2_132 : Cond.laysStatic "jdk/internal/util/Preconditions" "SIOOBE_FORMATTER" "Ljava/util/function/BiFunction;" ∈ lw_tbl := U2 (List.mem_of_getElem? (i := 132) rfl)
theorem W2_133 : Cond.methodLink RJ0 1059 yJ3_checkIndex_8e157 ∈ BIG := T2 (List.mem_of_getElem? (i := 133) rfl) rfl
theorem W2_134 : Cond.static yJ3_checkIndex_8e157 ∈ BIG := T2 (List.mem_of_getElem? (i := 134) rfl) rfl
theorem W2_135 : Cond.code yJ3_checkIndex_8e157 cJ3_checkIndex_8e157 3 (Option.some Jvm.ClassFile.FieldType.int) ∈ BIG := T2 (List.mem_of_getElem? (i := 135) rfl) rfl
theorem W2_136 : Cond.methodLink RJ0 498 yJ2_charAt_3b067 ∈ BIG := T2 (List.mem_of_getElem? (i := 136) rfl) rfl
theorem W2_137 : Cond.static yJ2_charAt_3b067 ∈ BIG := T2 (List.mem_of_getElem? (i := 137) rfl) rfl
theorem W2_138 : Cond.code yJ2_charAt_3b067 cJ2_charAt_3b067 2 (Option.some Jvm.ClassFile.FieldType.char) ∈ BIG := T2 (List.mem_of_getElem? (i := 138) rfl) rfl
theorem W2_139 : Cond.methodLink RJ2 67 yJ2_checkIndex_2214a ∈ BIG := T2 (List.mem_of_getElem? (i := 139) rfl) rfl
theorem W2_140 : Cond.static yJ2_checkIndex_2214a ∈ BIG := T2 (List.mem_of_getElem? (i := 140) rfl) rfl
theorem W2_141 : Cond.code yJ2_checkIndex_2214a cJ2_checkIndex_2214a 2 (Option.none : Option Jvm.ClassFile.FieldType) ∈ BIG := T2 (List.mem_of_getElem? (i := 141) rfl) rfl
theorem W2_142 : Cond.methodLink RJ2 48 yJ2_length_9d52b ∈ BIG := T2 (List.mem_of_getElem? (i := 142) rfl) rfl
theorem W2_143 : Cond.static yJ2_length_9d52b ∈ BIG := T2 (List.mem_of_getElem? (i := 143) rfl) rfl
theorem W2_144 : Cond.code yJ2_length_9d52b cJ2_length_9d52b 1 (Option.some Jvm.ClassFile.FieldType.int) ∈ BIG := T2 (List.mem_of_getElem? (i := 144) rfl) rfl
theorem W2_145 : Cond.methodLink RJ2 414 yJ0_checkIndex_df160 ∈ BIG := T2 (List.mem_of_getElem? (i := 145) rfl) rfl
theorem W2_146 : Cond.methodLink RJ2 71 yJ2_getChar_3b067 ∈ BIG := T2 (List.mem_of_getElem? (i := 146) rfl) rfl
theorem W2_147 : Cond.static yJ2_getChar_3b067 ∈ BIG := T2 (List.mem_of_getElem? (i := 147) rfl) rfl
theorem W2_148 : Cond.code yJ2_getChar_3b067 cJ2_getChar_3b067 2 (Option.some Jvm.ClassFile.FieldType.char) ∈ BIG := T2 (List.mem_of_getElem? (i := 148) rfl) rfl
theorem W2_149 : Cond.fieldLink RJ2 44 "java/lang/StringUTF16" "$assertionsDisabled" "Z" ∈ BIG := T2 (List.mem_of_getElem? (i := 149) rfl) rfl
theorem W2_150 : Cond.laysStatic "java/lang/StringUTF16" "$assertionsDisabled" "Z" ∈ lw_tbl := U2 (List.mem_of_getElem? (i := 150) rfl)
theorem W2_151 : Cond.fieldLink RJ2 59 "java/lang/StringUTF16" "HI_BYTE_SHIFT" "I" ∈ BIG := T2 (List.mem_of_getElem? (i := 151) rfl) rfl
theorem W2_152 : Cond.laysStatic "java/lang/StringUTF16" "HI_BYTE_SHIFT" "I" ∈ lw_tbl := U2 (List.mem_of_getElem? (i := 152) rfl)
theorem W2_153 : Cond.fieldLink RJ2 63 "java/lang/StringUTF16" "LO_BYTE_SHIFT" "I" ∈ BIG := T2 (List.mem_of_getElem? (i := 153) rfl) rfl
theorem W2_154 : Cond.laysStatic "java/lang/StringUTF16" "LO_BYTE_SHIFT" "I" ∈ lw_tbl := U2 (List.mem_of_getElem? (i := 154) rfl)
theorem W2_155 : Cond.methodLink RX6 59 yX6_readPart ∈ BIG := T2 (List.mem_of_getElem? (i := 155) rfl) rfl
theorem W2_157 : Cond.instanceMethod yX6_readPart ∈ BIG := T2 (List.mem_of_getElem? (i := 157) rfl) rfl
theorem W2_158 : Cond.code yX6_readPart cX6_readPart 2 (Option.some Jvm.ClassFile.FieldType.boolean) ∈ BIG := T2 (List.mem_of_getElem? (i := 158) rfl) rfl
theorem W2_159 : Cond.methodLink RX6 78 yX6_readDigits ∈ BIG := T2 (List.mem_of_getElem? (i := 159) rfl) rfl
theorem W2_161 : Cond.instanceMethod yX6_readDigits ∈ BIG := T2 (List.mem_of_getElem? (i := 161) rfl) rfl
theorem W2_162 : Cond.code yX6_readDigits cX6_readDigits 4 (Option.some Jvm.ClassFile.FieldType.boolean) ∈ BIG := T2 (List.mem_of_getElem? (i := 162) rfl) rfl
theorem W2_163 : Cond.methodLink RX6 82 yX6_isDigit ∈ BIG := T2 (List.mem_of_getElem? (i := 163) rfl) rfl
theorem W2_164 : Cond.static yX6_isDigit ∈ BIG := T2 (List.mem_of_getElem? (i := 164) rfl) rfl
theorem W2_165 : Cond.code yX6_isDigit cX6_isDigit 1 (Option.some Jvm.ClassFile.FieldType.boolean) ∈ BIG := T2 (List.mem_of_getElem? (i := 165) rfl) rfl
theorem W2_166 : Cond.methodLink RX6 63 yJ0_isEmpty_aae02 ∈ BIG := T2 (List.mem_of_getElem? (i := 166) rfl) rfl
theorem W2_167 : Cond.instanceMethod yJ0_isEmpty_aae02 ∈ BIG := T2 (List.mem_of_getElem? (i := 167) rfl) rfl
theorem W2_168 : Cond.selects RJ0 yJ0_isEmpty_aae02 yJ0_isEmpty_aae02 ∈ BIG := T2 (List.mem_of_getElem? (i := 168) rfl) rfl
theorem W2_169 : Cond.code yJ0_isEmpty_aae02 cJ0_isEmpty_aae02 1 (Option.some Jvm.ClassFile.FieldType.boolean) ∈ BIG := T2 (List.mem_of_getElem? (i := 169) rfl) rfl
theorem W2_170 : Cond.methodLink RX0 38 yX2_become ∈ BIG := T2 (List.mem_of_getElem? (i := 170) rfl) rfl
theorem W2_171 : Cond.instanceMethod yX2_become ∈ BIG := T2 (List.mem_of_getElem? (i := 171) rfl) rfl
theorem W2_172 : Cond.selects RX2 yX2_become yX2_become ∈ BIG := T2 (List.mem_of_getElem? (i := 172) rfl) rfl
theorem W2_173 : Cond.code yX2_become cX2_become 3 (Option.none : Option Jvm.ClassFile.FieldType) ∈ BIG := T2 (List.mem_of_getElem? (i := 173) rfl) rfl
theorem W2_174 : Cond.methodLink RX2 60 yX4_become ∈ BIG := T2 (List.mem_of_getElem? (i := 174) rfl) rfl
theorem W2_175 : Cond.instanceMethod yX4_become ∈ BIG := T2 (List.mem_of_getElem? (i := 175) rfl) rfl
theorem W2_176 : Cond.selects RX4 yX4_become yX4_become ∈ BIG := T2 (List.mem_of_getElem? (i := 176) rfl) rfl
theorem W2_177 : Cond.code yX4_become cX4_become 2 (Option.none : Option Jvm.ClassFile.FieldType) ∈ BIG := T2 (List.mem_of_getElem? (i := 177) rfl) rfl
theorem W2_178 : Cond.methodLink RX4 26 arraycopyName ∈ BIG := T2 (List.mem_of_getElem? (i := 178) rfl) rfl
theorem W2_179 : Cond.static arraycopyName ∈ BIG := T2 (List.mem_of_getElem? (i := 179) rfl) rfl
theorem W2_180 : Cond.native arraycopyName ∈ BIG := T2 (List.mem_of_getElem? (i := 180) rfl) rfl
theorem W2_181 : Cond.methodLink RX2 64 yX3_become ∈ BIG := T2 (List.mem_of_getElem? (i := 181) rfl) rfl
theorem W2_182 : Cond.instanceMethod yX3_become ∈ BIG := T2 (List.mem_of_getElem? (i := 182) rfl) rfl
theorem W2_183 : Cond.selects RX3 yX3_become yX3_become ∈ BIG := T2 (List.mem_of_getElem? (i := 183) rfl) rfl
theorem W2_184 : Cond.code yX3_become cX3_become 2 (Option.none : Option Jvm.ClassFile.FieldType) ∈ BIG := T2 (List.mem_of_getElem? (i := 184) rfl) rfl
theorem W2_185 : Cond.methodLink RX2 67 yX7_become ∈ BIG := T2 (List.mem_of_getElem? (i := 185) rfl) rfl
theorem W2_186 : Cond.instanceMethod yX7_become ∈ BIG := T2 (List.mem_of_getElem? (i := 186) rfl) rfl
theorem W2_187 : Cond.selects RX7 yX7_become yX7_become ∈ BIG := T2 (List.mem_of_getElem? (i := 187) rfl) rfl
theorem W2_188 : Cond.code yX7_become cX7_become 2 (Option.none : Option Jvm.ClassFile.FieldType) ∈ BIG := T2 (List.mem_of_getElem? (i := 188) rfl) rfl
theorem W2_189 : Cond.methodLink RX2 70 arraycopyName ∈ BIG := T2 (List.mem_of_getElem? (i := 189) rfl) rfl
theorem W2_190 : Cond.methodLink RX0 42 yX6_firstImpossible ∈ BIG := T2 (List.mem_of_getElem? (i := 190) rfl) rfl
theorem W2_191 : Cond.instanceMethod yX6_firstImpossible ∈ BIG := T2 (List.mem_of_getElem? (i := 191) rfl) rfl
theorem W2_192 : Cond.selects RX6 yX6_firstImpossible yX6_firstImpossible ∈ BIG := T2 (List.mem_of_getElem? (i := 192) rfl) rfl
theorem W2_193 : Cond.code yX6_firstImpossible cX6_firstImpossible 5 (Option.some Jvm.ClassFile.FieldType.int) ∈ BIG := T2 (List.mem_of_getElem? (i := 193) rfl) rfl
theorem W2_194 : Cond.methodLink RX6 43 yX6_comesTrue ∈ BIG := T2 (List.mem_of_getElem? (i := 194) rfl) rfl
theorem W2_196 : Cond.instanceMethod yX6_comesTrue ∈ BIG := T2 (List.mem_of_getElem? (i := 196) rfl) rfl
theorem W2_197 : Cond.code yX6_comesTrue cX6_comesTrue 3 (Option.some Jvm.ClassFile.FieldType.boolean) ∈ BIG := T2 (List.mem_of_getElem? (i := 197) rfl) rfl
theorem W2_198 : Cond.methodLink RX6 85 yX6_resize ∈ BIG := T2 (List.mem_of_getElem? (i := 198) rfl) rfl
theorem W2_200 : Cond.instanceMethod yX6_resize ∈ BIG := T2 (List.mem_of_getElem? (i := 200) rfl) rfl
theorem W2_201 : Cond.code yX6_resize cX6_resize 3 (Option.some Jvm.ClassFile.FieldType.boolean) ∈ BIG := T2 (List.mem_of_getElem? (i := 201) rfl) rfl
theorem W2_202 : Cond.methodLinkNest RX6 101 yX8_whyNotWithin "ChairTooFew" ∈ lw_tbl := U2 (List.mem_of_getElem? (i := 202) rfl)
theorem W2_203 : Cond.static yX8_whyNotWithin ∈ BIG := T2 (List.mem_of_getElem? (i := 203) rfl) rfl
theorem W2_204 : Cond.code yX8_whyNotWithin cX8_whyNotWithin 3 (Option.some Jvm.ClassFile.FieldType.int) ∈ BIG := T2 (List.mem_of_getElem? (i := 204) rfl) rfl
theorem W2_205 : Cond.methodLink RX6 89 yX6_seatMore ∈ BIG := T2 (List.mem_of_getElem? (i := 205) rfl) rfl
theorem W2_207 : Cond.instanceMethod yX6_seatMore ∈ BIG := T2 (List.mem_of_getElem? (i := 207) rfl) rfl
theorem W2_208 : Cond.code yX6_seatMore cX6_seatMore 3 (Option.some Jvm.ClassFile.FieldType.boolean) ∈ BIG := T2 (List.mem_of_getElem? (i := 208) rfl) rfl
theorem W2_209 : Cond.methodLink RX6 122 yX2_whyNoChair ∈ BIG := T2 (List.mem_of_getElem? (i := 209) rfl) rfl
theorem W2_210 : Cond.instanceMethod yX2_whyNoChair ∈ BIG := T2 (List.mem_of_getElem? (i := 210) rfl) rfl
theorem W2_211 : Cond.selects RX2 yX2_whyNoChair yX2_whyNoChair ∈ BIG := T2 (List.mem_of_getElem? (i := 211) rfl) rfl
theorem W2_212 : Cond.code yX2_whyNoChair cX2_whyNoChair 2 (Option.some Jvm.ClassFile.FieldType.int) ∈ BIG := T2 (List.mem_of_getElem? (i := 212) rfl) rfl
theorem W2_213 : Cond.methodLink RX2 90 yX4_isPlace ∈ BIG := T2 (List.mem_of_getElem? (i := 213) rfl) rfl
theorem W2_214 : Cond.instanceMethod yX4_isPlace ∈ BIG := T2 (List.mem_of_getElem? (i := 214) rfl) rfl
theorem W2_215 : Cond.selects RX4 yX4_isPlace yX4_isPlace ∈ BIG := T2 (List.mem_of_getElem? (i := 215) rfl) rfl
theorem W2_216 : Cond.code yX4_isPlace cX4_isPlace 2 (Option.some Jvm.ClassFile.FieldType.boolean) ∈ BIG := T2 (List.mem_of_getElem? (i := 216) rfl) rfl
theorem W2_217 : Cond.methodLink RX2 93 yX4_hasChair ∈ BIG := T2 (List.mem_of_getElem? (i := 217) rfl) rfl
theorem W2_218 : Cond.instanceMethod yX4_hasChair ∈ BIG := T2 (List.mem_of_getElem? (i := 218) rfl) rfl
theorem W2_219 : Cond.selects RX4 yX4_hasChair yX4_hasChair ∈ BIG := T2 (List.mem_of_getElem? (i := 219) rfl) rfl
theorem W2_220 : Cond.code yX4_hasChair cX4_hasChair 2 (Option.some Jvm.ClassFile.FieldType.boolean) ∈ BIG := T2 (List.mem_of_getElem? (i := 220) rfl) rfl
theorem W2_221 : Cond.methodLink RX6 126 yX2_addChair ∈ BIG := T2 (List.mem_of_getElem? (i := 221) rfl) rfl
theorem W2_222 : Cond.instanceMethod yX2_addChair ∈ BIG := T2 (List.mem_of_getElem? (i := 222) rfl) rfl
theorem W2_223 : Cond.selects RX2 yX2_addChair yX2_addChair ∈ BIG := T2 (List.mem_of_getElem? (i := 223) rfl) rfl
theorem W2_224 : Cond.code yX2_addChair cX2_addChair 2 (Option.some Jvm.ClassFile.FieldType.int) ∈ BIG := T2 (List.mem_of_getElem? (i := 224) rfl) rfl
theorem W2_225 : Cond.methodLink RX2 96 yX4_putChair ∈ BIG := T2 (List.mem_of_getElem? (i := 225) rfl) rfl
theorem W2_226 : Cond.instanceMethod yX4_putChair ∈ BIG := T2 (List.mem_of_getElem? (i := 226) rfl) rfl
theorem W2_227 : Cond.selects RX4 yX4_putChair yX4_putChair ∈ BIG := T2 (List.mem_of_getElem? (i := 227) rfl) rfl
theorem W2_228 : Cond.code yX4_putChair cX4_putChair 3 (Option.none : Option Jvm.ClassFile.FieldType) ∈ BIG := T2 (List.mem_of_getElem? (i := 228) rfl) rfl
theorem W2_229 : Cond.methodLink RX6 92 yX6_walkerMore ∈ BIG := T2 (List.mem_of_getElem? (i := 229) rfl) rfl
theorem W2_231 : Cond.instanceMethod yX6_walkerMore ∈ BIG := T2 (List.mem_of_getElem? (i := 231) rfl) rfl
theorem W2_232 : Cond.code yX6_walkerMore cX6_walkerMore 3 (Option.some Jvm.ClassFile.FieldType.boolean) ∈ BIG := T2 (List.mem_of_getElem? (i := 232) rfl) rfl
theorem W2_233 : Cond.methodLink RX6 129 yX2_whyNoWalker ∈ BIG := T2 (List.mem_of_getElem? (i := 233) rfl) rfl
theorem W2_234 : Cond.instanceMethod yX2_whyNoWalker ∈ BIG := T2 (List.mem_of_getElem? (i := 234) rfl) rfl
theorem W2_235 : Cond.selects RX2 yX2_whyNoWalker yX2_whyNoWalker ∈ BIG := T2 (List.mem_of_getElem? (i := 235) rfl) rfl
theorem W2_236 : Cond.code yX2_whyNoWalker cX2_whyNoWalker 5 (Option.some Jvm.ClassFile.FieldType.int) ∈ BIG := T2 (List.mem_of_getElem? (i := 236) rfl) rfl
theorem W2_237 : Cond.methodLinkNest RX2 100 yX8_whyNotWithin "ChairTooFew" ∈ lw_tbl := U2 (List.mem_of_getElem? (i := 237) rfl)
theorem W2_238 : Cond.methodLink RX2 104 yX2_isStoodOn ∈ BIG := T2 (List.mem_of_getElem? (i := 238) rfl) rfl
theorem W2_239 : Cond.instanceMethod yX2_isStoodOn ∈ BIG := T2 (List.mem_of_getElem? (i := 239) rfl) rfl
theorem W3_0 : Cond.selects RX2 yX2_isStoodOn yX2_isStoodOn ∈ BIG := T3 (List.mem_of_getElem? (i := 0) rfl) rfl
theorem W3_1 : Cond.code yX2_isStoodOn cX2_isStoodOn 2 (Option.some Jvm.ClassFile.FieldType.boolean) ∈ BIG := T3 (List.mem_of_getElem? (i := 1) rfl) rfl
theorem W3_2 : Cond.methodLink RX6 132 yX2_addWalker ∈ BIG := T3 (List.mem_of_getElem? (i := 2) rfl) rfl
theorem W3_3 : Cond.instanceMethod yX2_addWalker ∈ BIG := T3 (List.mem_of_getElem? (i := 3) rfl) rfl
theorem W3_4 : Cond.selects RX2 yX2_addWalker yX2_addWalker ∈ BIG := T3 (List.mem_of_getElem? (i := 4) rfl) rfl
theorem W3_5 : Cond.code yX2_addWalker cX2_addWalker 5 (Option.some Jvm.ClassFile.FieldType.int) ∈ BIG := T3 (List.mem_of_getElem? (i := 5) rfl) rfl
theorem W3_6 : Cond.methodLink RX2 107 yX7_arrive ∈ BIG := T3 (List.mem_of_getElem? (i := 6) rfl) rfl
theorem W3_7 : Cond.instanceMethod yX7_arrive ∈ BIG := T3 (List.mem_of_getElem? (i := 7) rfl) rfl
theorem W3_8 : Cond.selects RX7 yX7_arrive yX7_arrive ∈ BIG := T3 (List.mem_of_getElem? (i := 8) rfl) rfl
theorem W3_9 : Cond.code yX7_arrive cX7_arrive 4 (Option.none : Option Jvm.ClassFile.FieldType) ∈ BIG := T3 (List.mem_of_getElem? (i := 9) rfl) rfl
theorem W3_10 : Cond.methodLink RX2 111 yX2_mark ∈ BIG := T3 (List.mem_of_getElem? (i := 10) rfl) rfl
theorem W3_12 : Cond.instanceMethod yX2_mark ∈ BIG := T3 (List.mem_of_getElem? (i := 12) rfl) rfl
theorem W3_13 : Cond.code yX2_mark cX2_mark 3 (Option.none : Option Jvm.ClassFile.FieldType) ∈ BIG := T3 (List.mem_of_getElem? (i := 13) rfl) rfl
theorem W3_14 : Cond.methodLink RX6 95 yX6_newPlayer ∈ BIG := T3 (List.mem_of_getElem? (i := 14) rfl) rfl
theorem W3_16 : Cond.instanceMethod yX6_newPlayer ∈ BIG := T3 (List.mem_of_getElem? (i := 16) rfl) rfl
theorem W3_17 : Cond.code yX6_newPlayer cX6_newPlayer 3 (Option.some Jvm.ClassFile.FieldType.boolean) ∈ BIG := T3 (List.mem_of_getElem? (i := 17) rfl) rfl
theorem W3_18 : Cond.methodLink RX6 139 yX3_whyNot ∈ BIG := T3 (List.mem_of_getElem? (i := 18) rfl) rfl
theorem W3_19 : Cond.instanceMethod yX3_whyNot ∈ BIG := T3 (List.mem_of_getElem? (i := 19) rfl) rfl
theorem W3_20 : Cond.selects RX3 yX3_whyNot yX3_whyNot ∈ BIG := T3 (List.mem_of_getElem? (i := 20) rfl) rfl
theorem W3_21 : Cond.code yX3_whyNot cX3_whyNot 3 (Option.some Jvm.ClassFile.FieldType.int) ∈ BIG := T3 (List.mem_of_getElem? (i := 21) rfl) rfl
theorem W3_22 : Cond.methodLinkNest RX3 21 yX8_whyNotWithin "ChairTooFew" ∈ lw_tbl := U3 (List.mem_of_getElem? (i := 22) rfl)
theorem W3_23 : Cond.methodLink RX6 98 yX6_newForm ∈ BIG := T3 (List.mem_of_getElem? (i := 23) rfl) rfl
theorem W3_25 : Cond.instanceMethod yX6_newForm ∈ BIG := T3 (List.mem_of_getElem? (i := 25) rfl) rfl
theorem W3_26 : Cond.code yX6_newForm cX6_newForm 3 (Option.some Jvm.ClassFile.FieldType.boolean) ∈ BIG := T3 (List.mem_of_getElem? (i := 26) rfl) rfl
theorem W3_27 : Cond.methodLink RL 25 yX8_chair ∈ BIG := T3 (List.mem_of_getElem? (i := 27) rfl) rfl
theorem W3_28 : Cond.instanceMethod yX8_chair ∈ BIG := T3 (List.mem_of_getElem? (i := 28) rfl) rfl
theorem W3_29 : Cond.selects RX8 yX8_chair yX8_chair ∈ BIG := T3 (List.mem_of_getElem? (i := 29) rfl) rfl
theorem W3_30 : Cond.code yX8_chair cX8_chair 3 (Option.some Jvm.ClassFile.FieldType.int) ∈ BIG := T3 (List.mem_of_getElem? (i := 30) rfl) rfl
theorem W3_31 : Cond.methodLink RX8 70 yX2_whyNoChair ∈ BIG := T3 (List.mem_of_getElem? (i := 31) rfl) rfl
theorem W3_32 : Cond.methodLink RX8 73 yX2_addChair ∈ BIG := T3 (List.mem_of_getElem? (i := 32) rfl) rfl
theorem W3_33 : Cond.methodLink RL 30 yX8_walker ∈ BIG := T3 (List.mem_of_getElem? (i := 33) rfl) rfl
theorem W3_34 : Cond.instanceMethod yX8_walker ∈ BIG := T3 (List.mem_of_getElem? (i := 34) rfl) rfl
theorem W3_35 : Cond.selects RX8 yX8_walker yX8_walker ∈ BIG := T3 (List.mem_of_getElem? (i := 35) rfl) rfl
theorem W3_36 : Cond.code yX8_walker cX8_walker 5 (Option.some Jvm.ClassFile.FieldType.int) ∈ BIG := T3 (List.mem_of_getElem? (i := 36) rfl) rfl
theorem W3_37 : Cond.methodLink RX8 76 yX2_whyNoWalker ∈ BIG := T3 (List.mem_of_getElem? (i := 37) rfl) rfl
theorem W3_38 : Cond.methodLink RX8 80 yX2_addWalker ∈ BIG := T3 (List.mem_of_getElem? (i := 38) rfl) rfl
theorem W3_39 : Cond.methodLink RL 35 yX8_set ∈ BIG := T3 (List.mem_of_getElem? (i := 39) rfl) rfl
theorem W3_40 : Cond.instanceMethod yX8_set ∈ BIG := T3 (List.mem_of_getElem? (i := 40) rfl) rfl
theorem W3_41 : Cond.selects RX8 yX8_set yX8_set ∈ BIG := T3 (List.mem_of_getElem? (i := 41) rfl) rfl
theorem W3_42 : Cond.code yX8_set cX8_set 4 (Option.some Jvm.ClassFile.FieldType.int) ∈ BIG := T3 (List.mem_of_getElem? (i := 42) rfl) rfl
theorem W3_43 : Cond.methodLink RX8 83 yX2_knows ∈ BIG := T3 (List.mem_of_getElem? (i := 43) rfl) rfl
theorem W3_44 : Cond.instanceMethod yX2_knows ∈ BIG := T3 (List.mem_of_getElem? (i := 44) rfl) rfl
theorem W3_45 : Cond.selects RX2 yX2_knows yX2_knows ∈ BIG := T3 (List.mem_of_getElem? (i := 45) rfl) rfl
theorem W3_46 : Cond.code yX2_knows cX2_knows 2 (Option.some Jvm.ClassFile.FieldType.boolean) ∈ BIG := T3 (List.mem_of_getElem? (i := 46) rfl) rfl
theorem W3_47 : Cond.methodLink RX8 87 yX8_leastOf ∈ BIG := T3 (List.mem_of_getElem? (i := 47) rfl) rfl
theorem W3_48 : Cond.static yX8_leastOf ∈ BIG := T3 (List.mem_of_getElem? (i := 48) rfl) rfl
theorem W3_49 : Cond.code yX8_leastOf cX8_leastOf 1 (Option.some Jvm.ClassFile.FieldType.int) ∈ BIG := T3 (List.mem_of_getElem? (i := 49) rfl) rfl
theorem W3_50 : Cond.methodLink RX8 90 yX8_greatestOf ∈ BIG := T3 (List.mem_of_getElem? (i := 50) rfl) rfl
theorem W3_51 : Cond.static yX8_greatestOf ∈ BIG := T3 (List.mem_of_getElem? (i := 51) rfl) rfl
theorem W3_52 : Cond.code yX8_greatestOf cX8_greatestOf 1 (Option.some Jvm.ClassFile.FieldType.int) ∈ BIG := T3 (List.mem_of_getElem? (i := 52) rfl) rfl
theorem W3_53 : Cond.methodLink RX8 97 yX7_change ∈ BIG := T3 (List.mem_of_getElem? (i := 53) rfl) rfl
theorem W3_54 : Cond.instanceMethod yX7_change ∈ BIG := T3 (List.mem_of_getElem? (i := 54) rfl) rfl
theorem W3_55 : Cond.selects RX7 yX7_change yX7_change ∈ BIG := T3 (List.mem_of_getElem? (i := 55) rfl) rfl
theorem W3_56 : Cond.code yX7_change cX7_change 4 (Option.some Jvm.ClassFile.FieldType.int) ∈ BIG := T3 (List.mem_of_getElem? (i := 56) rfl) rfl
theorem W3_57 : Cond.methodLink RL 39 yX8_player ∈ BIG := T3 (List.mem_of_getElem? (i := 57) rfl) rfl
theorem W3_58 : Cond.instanceMethod yX8_player ∈ BIG := T3 (List.mem_of_getElem? (i := 58) rfl) rfl
theorem W3_59 : Cond.selects RX8 yX8_player yX8_player ∈ BIG := T3 (List.mem_of_getElem? (i := 59) rfl) rfl
theorem W3_60 : Cond.code yX8_player cX8_player 5 (Option.some Jvm.ClassFile.FieldType.int) ∈ BIG := T3 (List.mem_of_getElem? (i := 60) rfl) rfl
theorem W3_61 : Cond.methodLink RX8 107 yX3_whyNot ∈ BIG := T3 (List.mem_of_getElem? (i := 61) rfl) rfl
theorem W3_62 : Cond.methodLink RL 44 yX8_form ∈ BIG := T3 (List.mem_of_getElem? (i := 62) rfl) rfl
theorem W3_63 : Cond.instanceMethod yX8_form ∈ BIG := T3 (List.mem_of_getElem? (i := 63) rfl) rfl
theorem W3_64 : Cond.selects RX8 yX8_form yX8_form ∈ BIG := T3 (List.mem_of_getElem? (i := 64) rfl) rfl
theorem W3_65 : Cond.code yX8_form cX8_form 4 (Option.some Jvm.ClassFile.FieldType.int) ∈ BIG := T3 (List.mem_of_getElem? (i := 65) rfl) rfl
theorem W3_66 : Cond.methodLink RX8 118 yX8_whyNotWithin ∈ BIG := T3 (List.mem_of_getElem? (i := 66) rfl) rfl
theorem W3_67 : Cond.methodLink RL 48 yX8_seed ∈ BIG := T3 (List.mem_of_getElem? (i := 67) rfl) rfl
theorem W3_68 : Cond.instanceMethod yX8_seed ∈ BIG := T3 (List.mem_of_getElem? (i := 68) rfl) rfl
theorem W3_69 : Cond.selects RX8 yX8_seed yX8_seed ∈ BIG := T3 (List.mem_of_getElem? (i := 69) rfl) rfl
theorem W3_70 : Cond.code yX8_seed cX8_seed 3 (Option.some Jvm.ClassFile.FieldType.int) ∈ BIG := T3 (List.mem_of_getElem? (i := 70) rfl) rfl
theorem W3_71 : Cond.methodLink RL 52 yX8_of ∈ BIG := T3 (List.mem_of_getElem? (i := 71) rfl) rfl
theorem W3_72 : Cond.instanceMethod yX8_of ∈ BIG := T3 (List.mem_of_getElem? (i := 72) rfl) rfl
theorem W3_73 : Cond.selects RX8 yX8_of yX8_of ∈ BIG := T3 (List.mem_of_getElem? (i := 73) rfl) rfl
theorem W3_74 : Cond.code yX8_of cX8_of 3 (Option.some Jvm.ClassFile.FieldType.int) ∈ BIG := T3 (List.mem_of_getElem? (i := 74) rfl) rfl
theorem W3_75 : Cond.methodLink RX8 127 yX7_tell ∈ BIG := T3 (List.mem_of_getElem? (i := 75) rfl) rfl
theorem W3_76 : Cond.instanceMethod yX7_tell ∈ BIG := T3 (List.mem_of_getElem? (i := 76) rfl) rfl
theorem W3_77 : Cond.selects RX7 yX7_tell yX7_tell ∈ BIG := T3 (List.mem_of_getElem? (i := 77) rfl) rfl
theorem W3_78 : Cond.code yX7_tell cX7_tell 2 (Option.some Jvm.ClassFile.FieldType.int) ∈ BIG := T3 (List.mem_of_getElem? (i := 78) rfl) rfl
theorem W3_79 : Cond.methodLink RL 56 yX8_has ∈ BIG := T3 (List.mem_of_getElem? (i := 79) rfl) rfl
theorem W3_80 : Cond.instanceMethod yX8_has ∈ BIG := T3 (List.mem_of_getElem? (i := 80) rfl) rfl
theorem W3_81 : Cond.selects RX8 yX8_has yX8_has ∈ BIG := T3 (List.mem_of_getElem? (i := 81) rfl) rfl
theorem W3_82 : Cond.code yX8_has cX8_has 2 (Option.some Jvm.ClassFile.FieldType.int) ∈ BIG := T3 (List.mem_of_getElem? (i := 82) rfl) rfl
theorem W3_83 : Cond.methodLink RX8 134 yX4_isPlace ∈ BIG := T3 (List.mem_of_getElem? (i := 83) rfl) rfl
theorem W3_84 : Cond.methodLink RX8 139 yX4_hasChair ∈ BIG := T3 (List.mem_of_getElem? (i := 84) rfl) rfl
theorem W3_85 : Cond.methodLink RL 60 yX8_haste ∈ BIG := T3 (List.mem_of_getElem? (i := 85) rfl) rfl
theorem W3_86 : Cond.instanceMethod yX8_haste ∈ BIG := T3 (List.mem_of_getElem? (i := 86) rfl) rfl
theorem W3_87 : Cond.selects RX8 yX8_haste yX8_haste ∈ BIG := T3 (List.mem_of_getElem? (i := 87) rfl) rfl
theorem W3_88 : Cond.code yX8_haste cX8_haste 4 (Option.some Jvm.ClassFile.FieldType.int) ∈ BIG := T3 (List.mem_of_getElem? (i := 88) rfl) rfl
theorem W3_89 : Cond.methodLink RX8 145 yX4_far ∈ BIG := T3 (List.mem_of_getElem? (i := 89) rfl) rfl
theorem W3_90 : Cond.instanceMethod yX4_far ∈ BIG := T3 (List.mem_of_getElem? (i := 90) rfl) rfl
theorem W3_91 : Cond.selects RX4 yX4_far yX4_far ∈ BIG := T3 (List.mem_of_getElem? (i := 91) rfl) rfl
theorem W3_92 : Cond.code yX4_far cX4_far 4 (Option.some Jvm.ClassFile.FieldType.int) ∈ BIG := T3 (List.mem_of_getElem? (i := 92) rfl) rfl
theorem W3_93 : Cond.methodLink RX8 148 yX7_hasteOver ∈ BIG := T3 (List.mem_of_getElem? (i := 93) rfl) rfl
theorem W3_94 : Cond.instanceMethod yX7_hasteOver ∈ BIG := T3 (List.mem_of_getElem? (i := 94) rfl) rfl
theorem W3_95 : Cond.selects RX7 yX7_hasteOver yX7_hasteOver ∈ BIG := T3 (List.mem_of_getElem? (i := 95) rfl) rfl
theorem W3_96 : Cond.code yX7_hasteOver cX7_hasteOver 4 (Option.some Jvm.ClassFile.FieldType.int) ∈ BIG := T3 (List.mem_of_getElem? (i := 96) rfl) rfl
theorem W3_97 : Cond.methodLink RL 64 yX8_go ∈ BIG := T3 (List.mem_of_getElem? (i := 97) rfl) rfl
theorem W3_98 : Cond.instanceMethod yX8_go ∈ BIG := T3 (List.mem_of_getElem? (i := 98) rfl) rfl
theorem W3_99 : Cond.selects RX8 yX8_go yX8_go ∈ BIG := T3 (List.mem_of_getElem? (i := 99) rfl) rfl
theorem W3_100 : Cond.code yX8_go cX8_go 4 (Option.some Jvm.ClassFile.FieldType.int) ∈ BIG := T3 (List.mem_of_getElem? (i := 100) rfl) rfl
theorem W3_101 : Cond.methodLink RX8 151 yX2_canGoOn ∈ BIG := T3 (List.mem_of_getElem? (i := 101) rfl) rfl
theorem W3_102 : Cond.instanceMethod yX2_canGoOn ∈ BIG := T3 (List.mem_of_getElem? (i := 102) rfl) rfl
theorem W3_103 : Cond.selects RX2 yX2_canGoOn yX2_canGoOn ∈ BIG := T3 (List.mem_of_getElem? (i := 103) rfl) rfl
theorem W3_104 : Cond.code yX2_canGoOn cX2_canGoOn 1 (Option.some Jvm.ClassFile.FieldType.boolean) ∈ BIG := T3 (List.mem_of_getElem? (i := 104) rfl) rfl
theorem W3_105 : Cond.methodLink RX2 83 yX2_countIn ∈ BIG := T3 (List.mem_of_getElem? (i := 105) rfl) rfl
theorem W3_106 : Cond.instanceMethod yX2_countIn ∈ BIG := T3 (List.mem_of_getElem? (i := 106) rfl) rfl
theorem W3_107 : Cond.selects RX2 yX2_countIn yX2_countIn ∈ BIG := T3 (List.mem_of_getElem? (i := 107) rfl) rfl
theorem W3_108 : Cond.code yX2_countIn cX2_countIn 3 (Option.some Jvm.ClassFile.FieldType.int) ∈ BIG := T3 (List.mem_of_getElem? (i := 108) rfl) rfl
theorem W3_109 : Cond.methodLink RX2 79 yX2_knowsIn ∈ BIG := T3 (List.mem_of_getElem? (i := 109) rfl) rfl
theorem W3_110 : Cond.instanceMethod yX2_knowsIn ∈ BIG := T3 (List.mem_of_getElem? (i := 110) rfl) rfl
theorem W3_111 : Cond.selects RX2 yX2_knowsIn yX2_knowsIn ∈ BIG := T3 (List.mem_of_getElem? (i := 111) rfl) rfl
theorem W3_112 : Cond.code yX2_knowsIn cX2_knowsIn 2 (Option.some Jvm.ClassFile.FieldType.boolean) ∈ BIG := T3 (List.mem_of_getElem? (i := 112) rfl) rfl
theorem W3_113 : Cond.methodLink RX8 155 yX2_passTenth ∈ BIG := T3 (List.mem_of_getElem? (i := 113) rfl) rfl
theorem W3_114 : Cond.instanceMethod yX2_passTenth ∈ BIG := T3 (List.mem_of_getElem? (i := 114) rfl) rfl
theorem W3_115 : Cond.selects RX2 yX2_passTenth yX2_passTenth ∈ BIG := T3 (List.mem_of_getElem? (i := 115) rfl) rfl
theorem W3_116 : Cond.code yX2_passTenth cX2_passTenth 2 (Option.some Jvm.ClassFile.FieldType.boolean) ∈ BIG := T3 (List.mem_of_getElem? (i := 116) rfl) rfl
theorem W3_117 : Cond.methodLink RX2 133 yX2_walkAll ∈ BIG := T3 (List.mem_of_getElem? (i := 117) rfl) rfl
theorem W3_118 : Cond.instanceMethod yX2_walkAll ∈ BIG := T3 (List.mem_of_getElem? (i := 118) rfl) rfl
theorem W3_119 : Cond.selects RX2 yX2_walkAll yX2_walkAll ∈ BIG := T3 (List.mem_of_getElem? (i := 119) rfl) rfl
theorem W3_120 : Cond.code yX2_walkAll cX2_walkAll 2 (Option.none : Option Jvm.ClassFile.FieldType) ∈ BIG := T3 (List.mem_of_getElem? (i := 120) rfl) rfl
theorem W3_121 : Cond.methodLink RX2 115 yX2_walk ∈ BIG := T3 (List.mem_of_getElem? (i := 121) rfl) rfl
theorem W3_123 : Cond.instanceMethod yX2_walk ∈ BIG := T3 (List.mem_of_getElem? (i := 123) rfl) rfl
theorem W3_124 : Cond.code yX2_walk cX2_walk 3 (Option.none : Option Jvm.ClassFile.FieldType) ∈ BIG := T3 (List.mem_of_getElem? (i := 124) rfl) rfl
theorem W3_125 : Cond.methodLink RX2 136 yX3_drawAgain ∈ BIG := T3 (List.mem_of_getElem? (i := 125) rfl) rfl
theorem W3_126 : Cond.instanceMethod yX3_drawAgain ∈ BIG := T3 (List.mem_of_getElem? (i := 126) rfl) rfl
theorem W3_127 : Cond.selects RX3 yX3_drawAgain yX3_drawAgain ∈ BIG := T3 (List.mem_of_getElem? (i := 127) rfl) rfl
theorem W3_128 : Cond.code yX3_drawAgain cX3_drawAgain 1 (Option.some Jvm.ClassFile.FieldType.int) ∈ BIG := T3 (List.mem_of_getElem? (i := 128) rfl) rfl
theorem W3_129 : Cond.constant RX3 25 (1103515245) ∈ BIG := T3 (List.mem_of_getElem? (i := 129) rfl) rfl
theorem W3_130 : Cond.constant RX3 26 (2147483647) ∈ BIG := T3 (List.mem_of_getElem? (i := 130) rfl) rfl
theorem W3_131 : Cond.constant RX3 27 (65536) ∈ BIG := T3 (List.mem_of_getElem? (i := 131) rfl) rfl
theorem W3_132 : Cond.methodLink RX2 139 yX2_isLikedAtChair ∈ BIG := T3 (List.mem_of_getElem? (i := 132) rfl) rfl
theorem W3_134 : Cond.instanceMethod yX2_isLikedAtChair ∈ BIG := T3 (List.mem_of_getElem? (i := 134) rfl) rfl
theorem W3_135 : Cond.code yX2_isLikedAtChair cX2_isLikedAtChair 2 (Option.some Jvm.ClassFile.FieldType.boolean) ∈ BIG := T3 (List.mem_of_getElem? (i := 135) rfl) rfl
theorem W3_136 : Cond.methodLink RX2 143 yX3_stopsIn ∈ BIG := T3 (List.mem_of_getElem? (i := 136) rfl) rfl
theorem W3_137 : Cond.instanceMethod yX3_stopsIn ∈ BIG := T3 (List.mem_of_getElem? (i := 137) rfl) rfl
theorem W3_138 : Cond.selects RX3 yX3_stopsIn yX3_stopsIn ∈ BIG := T3 (List.mem_of_getElem? (i := 138) rfl) rfl
theorem W3_139 : Cond.code yX3_stopsIn cX3_stopsIn 4 (Option.some Jvm.ClassFile.FieldType.boolean) ∈ BIG := T3 (List.mem_of_getElem? (i := 139) rfl) rfl
theorem W3_140 : Cond.methodLink RX8 158 yX2_endRound ∈ BIG := T3 (List.mem_of_getElem? (i := 140) rfl) rfl
theorem W3_141 : Cond.instanceMethod yX2_endRound ∈ BIG := T3 (List.mem_of_getElem? (i := 141) rfl) rfl
theorem W3_142 : Cond.selects RX2 yX2_endRound yX2_endRound ∈ BIG := T3 (List.mem_of_getElem? (i := 142) rfl) rfl
theorem W3_143 : Cond.code yX2_endRound cX2_endRound 2 (Option.some Jvm.ClassFile.FieldType.int) ∈ BIG := T3 (List.mem_of_getElem? (i := 143) rfl) rfl
theorem W3_144 : Cond.methodLink RX2 153 yX5_seatAll ∈ BIG := T3 (List.mem_of_getElem? (i := 144) rfl) rfl
theorem W3_145 : Cond.instanceMethod yX5_seatAll ∈ BIG := T3 (List.mem_of_getElem? (i := 145) rfl) rfl
theorem W3_146 : Cond.selects RX5 yX5_seatAll yX5_seatAll ∈ BIG := T3 (List.mem_of_getElem? (i := 146) rfl) rfl
theorem W3_147 : Cond.code yX5_seatAll cX5_seatAll 4 (Option.none : Option Jvm.ClassFile.FieldType) ∈ BIG := T3 (List.mem_of_getElem? (i := 147) rfl) rfl
theorem W3_148 : Cond.methodLink RX5 29 yX5_measure ∈ BIG := T3 (List.mem_of_getElem? (i := 148) rfl) rfl
theorem W3_150 : Cond.instanceMethod yX5_measure ∈ BIG := T3 (List.mem_of_getElem? (i := 150) rfl) rfl
theorem W3_151 : Cond.code yX5_measure cX5_measure 7 (Option.none : Option Jvm.ClassFile.FieldType) ∈ BIG := T3 (List.mem_of_getElem? (i := 151) rfl) rfl
theorem W3_152 : Cond.methodLink RX5 55 yX4_placeOfChair ∈ BIG := T3 (List.mem_of_getElem? (i := 152) rfl) rfl
theorem W3_153 : Cond.instanceMethod yX4_placeOfChair ∈ BIG := T3 (List.mem_of_getElem? (i := 153) rfl) rfl
theorem W3_154 : Cond.selects RX4 yX4_placeOfChair yX4_placeOfChair ∈ BIG := T3 (List.mem_of_getElem? (i := 154) rfl) rfl
theorem W3_155 : Cond.code yX4_placeOfChair cX4_placeOfChair 2 (Option.some Jvm.ClassFile.FieldType.int) ∈ BIG := T3 (List.mem_of_getElem? (i := 155) rfl) rfl
theorem W3_156 : Cond.methodLink RX5 72 yX4_far ∈ BIG := T3 (List.mem_of_getElem? (i := 156) rfl) rfl
theorem W3_157 : Cond.methodLink RX5 83 yX7_hasteOver ∈ BIG := T3 (List.mem_of_getElem? (i := 157) rfl) rfl
theorem W3_158 : Cond.constant RX5 86 (2147483647) ∈ BIG := T3 (List.mem_of_getElem? (i := 158) rfl) rfl
theorem W3_159 : Cond.methodLink RX5 33 yX5_seatLeastHaste ∈ BIG := T3 (List.mem_of_getElem? (i := 159) rfl) rfl
theorem W3_161 : Cond.instanceMethod yX5_seatLeastHaste ∈ BIG := T3 (List.mem_of_getElem? (i := 161) rfl) rfl
theorem W3_162 : Cond.code yX5_seatLeastHaste cX5_seatLeastHaste 6 (Option.some Jvm.ClassFile.FieldType.boolean) ∈ BIG := T3 (List.mem_of_getElem? (i := 162) rfl) rfl
theorem W3_163 : Cond.methodLink RX5 47 yX5_giveWay ∈ BIG := T3 (List.mem_of_getElem? (i := 163) rfl) rfl
theorem W3_165 : Cond.instanceMethod yX5_giveWay ∈ BIG := T3 (List.mem_of_getElem? (i := 165) rfl) rfl
theorem W3_166 : Cond.code yX5_giveWay cX5_giveWay 5 (Option.none : Option Jvm.ClassFile.FieldType) ∈ BIG := T3 (List.mem_of_getElem? (i := 166) rfl) rfl
theorem W3_167 : Cond.methodLink RX2 157 yX2_whoGoes ∈ BIG := T3 (List.mem_of_getElem? (i := 167) rfl) rfl
theorem W3_168 : Cond.instanceMethod yX2_whoGoes ∈ BIG := T3 (List.mem_of_getElem? (i := 168) rfl) rfl
theorem W3_169 : Cond.selects RX2 yX2_whoGoes yX2_whoGoes ∈ BIG := T3 (List.mem_of_getElem? (i := 169) rfl) rfl
theorem W3_170 : Cond.code yX2_whoGoes cX2_whoGoes 5 (Option.some Jvm.ClassFile.FieldType.int) ∈ BIG := T3 (List.mem_of_getElem? (i := 170) rfl) rfl
theorem W3_171 : Cond.methodLink RX2 173 yX5_isSeated ∈ BIG := T3 (List.mem_of_getElem? (i := 171) rfl) rfl
theorem W3_172 : Cond.instanceMethod yX5_isSeated ∈ BIG := T3 (List.mem_of_getElem? (i := 172) rfl) rfl
theorem W3_173 : Cond.selects RX5 yX5_isSeated yX5_isSeated ∈ BIG := T3 (List.mem_of_getElem? (i := 173) rfl) rfl
theorem W3_174 : Cond.code yX5_isSeated cX5_isSeated 2 (Option.some Jvm.ClassFile.FieldType.boolean) ∈ BIG := T3 (List.mem_of_getElem? (i := 174) rfl) rfl
theorem W3_175 : Cond.methodLink RX2 176 yX4_farFromChairs ∈ BIG := T3 (List.mem_of_getElem? (i := 175) rfl) rfl
theorem W3_176 : Cond.instanceMethod yX4_farFromChairs ∈ BIG := T3 (List.mem_of_getElem? (i := 176) rfl) rfl
theorem W3_177 : Cond.selects RX4 yX4_farFromChairs yX4_farFromChairs ∈ BIG := T3 (List.mem_of_getElem? (i := 177) rfl) rfl
theorem W3_178 : Cond.code yX4_farFromChairs cX4_farFromChairs 5 (Option.some Jvm.ClassFile.FieldType.int) ∈ BIG := T3 (List.mem_of_getElem? (i := 178) rfl) rfl
theorem W3_179 : Cond.methodLink RX4 32 yX4_placeOfChair ∈ BIG := T3 (List.mem_of_getElem? (i := 179) rfl) rfl
theorem W3_180 : Cond.methodLink RX4 36 yX4_far ∈ BIG := T3 (List.mem_of_getElem? (i := 180) rfl) rfl
theorem W3_181 : Cond.methodLink RX2 160 yX2_losesChair ∈ BIG := T3 (List.mem_of_getElem? (i := 181) rfl) rfl
theorem W3_182 : Cond.instanceMethod yX2_losesChair ∈ BIG := T3 (List.mem_of_getElem? (i := 182) rfl) rfl
theorem W3_183 : Cond.selects RX2 yX2_losesChair yX2_losesChair ∈ BIG := T3 (List.mem_of_getElem? (i := 183) rfl) rfl
theorem W3_184 : Cond.code yX2_losesChair cX2_losesChair 2 (Option.some Jvm.ClassFile.FieldType.boolean) ∈ BIG := T3 (List.mem_of_getElem? (i := 184) rfl) rfl
theorem W3_185 : Cond.methodLink RX2 163 yX4_leavingPlace ∈ BIG := T3 (List.mem_of_getElem? (i := 185) rfl) rfl
theorem W3_186 : Cond.instanceMethod yX4_leavingPlace ∈ BIG := T3 (List.mem_of_getElem? (i := 186) rfl) rfl
theorem W3_187 : Cond.selects RX4 yX4_leavingPlace yX4_leavingPlace ∈ BIG := T3 (List.mem_of_getElem? (i := 187) rfl) rfl
theorem W3_188 : Cond.code yX4_leavingPlace cX4_leavingPlace 2 (Option.some Jvm.ClassFile.FieldType.int) ∈ BIG := T3 (List.mem_of_getElem? (i := 188) rfl) rfl
theorem W3_189 : Cond.methodLink RX4 44 yX4_mostCrowdedChair ∈ BIG := T3 (List.mem_of_getElem? (i := 189) rfl) rfl
theorem W3_191 : Cond.instanceMethod yX4_mostCrowdedChair ∈ BIG := T3 (List.mem_of_getElem? (i := 191) rfl) rfl
theorem W3_192 : Cond.code yX4_mostCrowdedChair cX4_mostCrowdedChair 7 (Option.some Jvm.ClassFile.FieldType.int) ∈ BIG := T3 (List.mem_of_getElem? (i := 192) rfl) rfl
theorem W3_193 : Cond.constant RX4 48 (2147483647) ∈ BIG := T3 (List.mem_of_getElem? (i := 193) rfl) rfl
theorem W3_194 : Cond.methodLink RX4 49 yX4_wayOn ∈ BIG := T3 (List.mem_of_getElem? (i := 194) rfl) rfl
theorem W3_196 : Cond.instanceMethod yX4_wayOn ∈ BIG := T3 (List.mem_of_getElem? (i := 196) rfl) rfl
theorem W3_197 : Cond.code yX4_wayOn cX4_wayOn 3 (Option.some Jvm.ClassFile.FieldType.int) ∈ BIG := T3 (List.mem_of_getElem? (i := 197) rfl) rfl
theorem W3_198 : Cond.methodLink RX2 167 yX4_takeChair ∈ BIG := T3 (List.mem_of_getElem? (i := 198) rfl) rfl
theorem W3_199 : Cond.instanceMethod yX4_takeChair ∈ BIG := T3 (List.mem_of_getElem? (i := 199) rfl) rfl
theorem W3_200 : Cond.selects RX4 yX4_takeChair yX4_takeChair ∈ BIG := T3 (List.mem_of_getElem? (i := 200) rfl) rfl
theorem W3_201 : Cond.code yX4_takeChair cX4_takeChair 4 (Option.none : Option Jvm.ClassFile.FieldType) ∈ BIG := T3 (List.mem_of_getElem? (i := 201) rfl) rfl
theorem W3_202 : Cond.methodLink RX4 40 yX4_hasChair ∈ BIG := T3 (List.mem_of_getElem? (i := 202) rfl) rfl
theorem W3_203 : Cond.methodLink RX2 170 yX2_knows ∈ BIG := T3 (List.mem_of_getElem? (i := 203) rfl) rfl
theorem W3_204 : Cond.methodLink RL 68 yX8_stop ∈ BIG := T3 (List.mem_of_getElem? (i := 204) rfl) rfl
theorem W3_205 : Cond.instanceMethod yX8_stop ∈ BIG := T3 (List.mem_of_getElem? (i := 205) rfl) rfl
theorem W3_206 : Cond.selects RX8 yX8_stop yX8_stop ∈ BIG := T3 (List.mem_of_getElem? (i := 206) rfl) rfl
theorem W3_207 : Cond.code yX8_stop cX8_stop 1 (Option.some Jvm.ClassFile.FieldType.int) ∈ BIG := T3 (List.mem_of_getElem? (i := 207) rfl) rfl
theorem W3_208 : Cond.methodLink RL 72 yX8_sits ∈ BIG := T3 (List.mem_of_getElem? (i := 208) rfl) rfl
theorem W3_209 : Cond.instanceMethod yX8_sits ∈ BIG := T3 (List.mem_of_getElem? (i := 209) rfl) rfl
theorem W3_210 : Cond.selects RX8 yX8_sits yX8_sits ∈ BIG := T3 (List.mem_of_getElem? (i := 210) rfl) rfl
theorem W3_211 : Cond.code yX8_sits cX8_sits 2 (Option.some Jvm.ClassFile.FieldType.int) ∈ BIG := T3 (List.mem_of_getElem? (i := 211) rfl) rfl
theorem W3_212 : Cond.methodLink RX8 165 yX2_knowsIn ∈ BIG := T3 (List.mem_of_getElem? (i := 212) rfl) rfl
theorem W3_213 : Cond.methodLink RX8 172 yX5_seatAll ∈ BIG := T3 (List.mem_of_getElem? (i := 213) rfl) rfl
theorem W3_214 : Cond.methodLink RX8 178 yX5_placeOf ∈ BIG := T3 (List.mem_of_getElem? (i := 214) rfl) rfl
theorem W3_215 : Cond.instanceMethod yX5_placeOf ∈ BIG := T3 (List.mem_of_getElem? (i := 215) rfl) rfl
theorem W3_216 : Cond.selects RX5 yX5_placeOf yX5_placeOf ∈ BIG := T3 (List.mem_of_getElem? (i := 216) rfl) rfl
theorem W3_217 : Cond.code yX5_placeOf cX5_placeOf 3 (Option.some Jvm.ClassFile.FieldType.int) ∈ BIG := T3 (List.mem_of_getElem? (i := 217) rfl) rfl
theorem W3_218 : Cond.methodLink RX5 51 yX5_isSeated ∈ BIG := T3 (List.mem_of_getElem? (i := 218) rfl) rfl
theorem W3_219 : Cond.methodLink RL 76 yX8_would ∈ BIG := T3 (List.mem_of_getElem? (i := 219) rfl) rfl
theorem W3_220 : Cond.instanceMethod yX8_would ∈ BIG := T3 (List.mem_of_getElem? (i := 220) rfl) rfl
theorem W3_221 : Cond.selects RX8 yX8_would yX8_would ∈ BIG := T3 (List.mem_of_getElem? (i := 221) rfl) rfl
theorem W3_222 : Cond.code yX8_would cX8_would 3 (Option.some Jvm.ClassFile.FieldType.int) ∈ BIG := T3 (List.mem_of_getElem? (i := 222) rfl) rfl
theorem W3_223 : Cond.methodLink RX8 182 yX2_whoGoes ∈ BIG := T3 (List.mem_of_getElem? (i := 223) rfl) rfl
theorem W3_224 : Cond.methodLink RX8 185 yX2_losesChair ∈ BIG := T3 (List.mem_of_getElem? (i := 224) rfl) rfl
theorem W3_225 : Cond.methodLink RX8 188 yX4_leavingPlace ∈ BIG := T3 (List.mem_of_getElem? (i := 225) rfl) rfl
theorem W3_226 : Cond.methodLink RL 80 yX8_odds ∈ BIG := T3 (List.mem_of_getElem? (i := 226) rfl) rfl
theorem W3_227 : Cond.instanceMethod yX8_odds ∈ BIG := T3 (List.mem_of_getElem? (i := 227) rfl) rfl
theorem W3_228 : Cond.selects RX8 yX8_odds yX8_odds ∈ BIG := T3 (List.mem_of_getElem? (i := 228) rfl) rfl
theorem W3_229 : Cond.code yX8_odds cX8_odds 4 (Option.some Jvm.ClassFile.FieldType.int) ∈ BIG := T3 (List.mem_of_getElem? (i := 229) rfl) rfl
theorem W3_230 : Cond.methodLink RX8 194 yX0_oddsAt ∈ BIG := T3 (List.mem_of_getElem? (i := 230) rfl) rfl
theorem W3_231 : Cond.instanceMethod yX0_oddsAt ∈ BIG := T3 (List.mem_of_getElem? (i := 231) rfl) rfl
theorem W3_232 : Cond.selects RX0 yX0_oddsAt yX0_oddsAt ∈ BIG := T3 (List.mem_of_getElem? (i := 232) rfl) rfl
theorem W3_233 : Cond.code yX0_oddsAt cX0_oddsAt 6 (Option.some Jvm.ClassFile.FieldType.int) ∈ BIG := T3 (List.mem_of_getElem? (i := 233) rfl) rfl
theorem W3_234 : Cond.methodLink RX0 49 yX2_knowsIn ∈ BIG := T3 (List.mem_of_getElem? (i := 234) rfl) rfl
theorem W3_235 : Cond.methodLink RX0 62 yX0_seatBehindTenth ∈ BIG := T3 (List.mem_of_getElem? (i := 235) rfl) rfl
theorem W3_237 : Cond.instanceMethod yX0_seatBehindTenth ∈ BIG := T3 (List.mem_of_getElem? (i := 237) rfl) rfl
theorem W3_238 : Cond.code yX0_seatBehindTenth cX0_seatBehindTenth 1 (Option.none : Option Jvm.ClassFile.FieldType) ∈ BIG := T3 (List.mem_of_getElem? (i := 238) rfl) rfl
theorem W3_239 : Cond.methodLink RX0 146 yX2_walkAll ∈ BIG := T3 (List.mem_of_getElem? (i := 239) rfl) rfl
theorem W4_0 : Cond.methodLink RX0 152 yX5_seatAll ∈ BIG := T4 (List.mem_of_getElem? (i := 0) rfl) rfl
theorem W4_1 : Cond.methodLink RX0 69 yX5_isSeated ∈ BIG := T4 (List.mem_of_getElem? (i := 1) rfl) rfl
theorem W4_2 : Cond.methodLink RL 84 yX8_fair ∈ BIG := T4 (List.mem_of_getElem? (i := 2) rfl) rfl
theorem W4_3 : Cond.instanceMethod yX8_fair ∈ BIG := T4 (List.mem_of_getElem? (i := 3) rfl) rfl
theorem W4_4 : Cond.selects RX8 yX8_fair yX8_fair ∈ BIG := T4 (List.mem_of_getElem? (i := 4) rfl) rfl
theorem W4_5 : Cond.code yX8_fair cX8_fair 3 (Option.some Jvm.ClassFile.FieldType.int) ∈ BIG := T4 (List.mem_of_getElem? (i := 5) rfl) rfl
theorem W4_6 : Cond.methodLink RX8 197 yX0_unfairness ∈ BIG := T4 (List.mem_of_getElem? (i := 6) rfl) rfl
theorem W4_7 : Cond.instanceMethod yX0_unfairness ∈ BIG := T4 (List.mem_of_getElem? (i := 7) rfl) rfl
theorem W4_8 : Cond.selects RX0 yX0_unfairness yX0_unfairness ∈ BIG := T4 (List.mem_of_getElem? (i := 8) rfl) rfl
theorem W4_9 : Cond.code yX0_unfairness cX0_unfairness 5 (Option.some Jvm.ClassFile.FieldType.int) ∈ BIG := T4 (List.mem_of_getElem? (i := 9) rfl) rfl
theorem W4_10 : Cond.methodLink RX0 74 yX0_countSeatedTimes ∈ BIG := T4 (List.mem_of_getElem? (i := 10) rfl) rfl
theorem W4_12 : Cond.instanceMethod yX0_countSeatedTimes ∈ BIG := T4 (List.mem_of_getElem? (i := 12) rfl) rfl
theorem W4_13 : Cond.code yX0_countSeatedTimes cX0_countSeatedTimes 4 (Option.none : Option Jvm.ClassFile.FieldType) ∈ BIG := T4 (List.mem_of_getElem? (i := 13) rfl) rfl
theorem W4_14 : Cond.methodLink RX0 78 yJ9_max_7cf53 ∈ BIG := T4 (List.mem_of_getElem? (i := 14) rfl) rfl
theorem W4_15 : Cond.static yJ9_max_7cf53 ∈ BIG := T4 (List.mem_of_getElem? (i := 15) rfl) rfl
theorem W4_16 : Cond.code yJ9_max_7cf53 cJ9_max_7cf53 2 (Option.some Jvm.ClassFile.FieldType.int) ∈ BIG := T4 (List.mem_of_getElem? (i := 16) rfl) rfl
theorem W4_17 : Cond.methodLink RX0 84 yJ9_min_7cf53 ∈ BIG := T4 (List.mem_of_getElem? (i := 17) rfl) rfl
theorem W4_18 : Cond.static yJ9_min_7cf53 ∈ BIG := T4 (List.mem_of_getElem? (i := 18) rfl) rfl
theorem W4_19 : Cond.code yJ9_min_7cf53 cJ9_min_7cf53 2 (Option.some Jvm.ClassFile.FieldType.int) ∈ BIG := T4 (List.mem_of_getElem? (i := 19) rfl) rfl
theorem W4_20 : Cond.methodLink RL 88 yX8_bestSlow ∈ BIG := T4 (List.mem_of_getElem? (i := 20) rfl) rfl
theorem W4_21 : Cond.instanceMethod yX8_bestSlow ∈ BIG := T4 (List.mem_of_getElem? (i := 21) rfl) rfl
theorem W4_22 : Cond.selects RX8 yX8_bestSlow yX8_bestSlow ∈ BIG := T4 (List.mem_of_getElem? (i := 22) rfl) rfl
theorem W4_23 : Cond.code yX8_bestSlow cX8_bestSlow 4 (Option.some Jvm.ClassFile.FieldType.int) ∈ BIG := T4 (List.mem_of_getElem? (i := 23) rfl) rfl
theorem W4_24 : Cond.methodLink RX8 200 yX0_slowOfGreatestOdds ∈ BIG := T4 (List.mem_of_getElem? (i := 24) rfl) rfl
theorem W4_25 : Cond.instanceMethod yX0_slowOfGreatestOdds ∈ BIG := T4 (List.mem_of_getElem? (i := 25) rfl) rfl
theorem W4_26 : Cond.selects RX0 yX0_slowOfGreatestOdds yX0_slowOfGreatestOdds ∈ BIG := T4 (List.mem_of_getElem? (i := 26) rfl) rfl
theorem W4_27 : Cond.code yX0_slowOfGreatestOdds cX0_slowOfGreatestOdds 7 (Option.some Jvm.ClassFile.FieldType.int) ∈ BIG := T4 (List.mem_of_getElem? (i := 27) rfl) rfl
theorem W4_28 : Cond.methodLink RX0 87 yX0_oddsAt ∈ BIG := T4 (List.mem_of_getElem? (i := 28) rfl) rfl
theorem W4_29 : Cond.methodLink RL 92 yX8_cheat ∈ BIG := T4 (List.mem_of_getElem? (i := 29) rfl) rfl
theorem W4_30 : Cond.instanceMethod yX8_cheat ∈ BIG := T4 (List.mem_of_getElem? (i := 30) rfl) rfl
theorem W4_31 : Cond.selects RX8 yX8_cheat yX8_cheat ∈ BIG := T4 (List.mem_of_getElem? (i := 31) rfl) rfl
theorem W4_32 : Cond.code yX8_cheat cX8_cheat 4 (Option.some Jvm.ClassFile.FieldType.int) ∈ BIG := T4 (List.mem_of_getElem? (i := 32) rfl) rfl
theorem W4_33 : Cond.methodLink RX8 203 yX0_gainOfCheating ∈ BIG := T4 (List.mem_of_getElem? (i := 33) rfl) rfl
theorem W4_34 : Cond.instanceMethod yX0_gainOfCheating ∈ BIG := T4 (List.mem_of_getElem? (i := 34) rfl) rfl
theorem W4_35 : Cond.selects RX0 yX0_gainOfCheating yX0_gainOfCheating ∈ BIG := T4 (List.mem_of_getElem? (i := 35) rfl) rfl
theorem W4_36 : Cond.code yX0_gainOfCheating cX0_gainOfCheating 6 (Option.some Jvm.ClassFile.FieldType.int) ∈ BIG := T4 (List.mem_of_getElem? (i := 36) rfl) rfl
theorem W4_37 : Cond.methodLink RL 96 yX8_lasts ∈ BIG := T4 (List.mem_of_getElem? (i := 37) rfl) rfl
theorem W4_38 : Cond.instanceMethod yX8_lasts ∈ BIG := T4 (List.mem_of_getElem? (i := 38) rfl) rfl
theorem W4_39 : Cond.selects RX8 yX8_lasts yX8_lasts ∈ BIG := T4 (List.mem_of_getElem? (i := 39) rfl) rfl
theorem W4_40 : Cond.code yX8_lasts cX8_lasts 2 (Option.some Jvm.ClassFile.FieldType.int) ∈ BIG := T4 (List.mem_of_getElem? (i := 40) rfl) rfl
theorem W4_41 : Cond.methodLink RX8 206 yX0_partyAhead ∈ BIG := T4 (List.mem_of_getElem? (i := 41) rfl) rfl
theorem W4_42 : Cond.instanceMethod yX0_partyAhead ∈ BIG := T4 (List.mem_of_getElem? (i := 42) rfl) rfl
theorem W4_43 : Cond.selects RX0 yX0_partyAhead yX0_partyAhead ∈ BIG := T4 (List.mem_of_getElem? (i := 43) rfl) rfl
theorem W4_44 : Cond.code yX0_partyAhead cX0_partyAhead 2 (Option.some Jvm.ClassFile.FieldType.int) ∈ BIG := T4 (List.mem_of_getElem? (i := 44) rfl) rfl
theorem W4_45 : Cond.methodLink RX0 91 yX0_playOut ∈ BIG := T4 (List.mem_of_getElem? (i := 45) rfl) rfl
theorem W4_47 : Cond.instanceMethod yX0_playOut ∈ BIG := T4 (List.mem_of_getElem? (i := 47) rfl) rfl
theorem W4_48 : Cond.code yX0_playOut cX0_playOut 2 (Option.none : Option Jvm.ClassFile.FieldType) ∈ BIG := T4 (List.mem_of_getElem? (i := 48) rfl) rfl
theorem W4_49 : Cond.methodLink RX0 159 yX2_passTenth ∈ BIG := T4 (List.mem_of_getElem? (i := 49) rfl) rfl
theorem W4_50 : Cond.methodLink RX0 163 yX2_endRound ∈ BIG := T4 (List.mem_of_getElem? (i := 50) rfl) rfl
theorem W4_51 : Cond.methodLink RX0 94 yX2_winner ∈ BIG := T4 (List.mem_of_getElem? (i := 51) rfl) rfl
theorem W4_52 : Cond.instanceMethod yX2_winner ∈ BIG := T4 (List.mem_of_getElem? (i := 52) rfl) rfl
theorem W4_53 : Cond.selects RX2 yX2_winner yX2_winner ∈ BIG := T4 (List.mem_of_getElem? (i := 53) rfl) rfl
theorem W4_54 : Cond.code yX2_winner cX2_winner 3 (Option.some Jvm.ClassFile.FieldType.int) ∈ BIG := T4 (List.mem_of_getElem? (i := 54) rfl) rfl
theorem W4_55 : Cond.methodLink RL 100 yX8_wins ∈ BIG := T4 (List.mem_of_getElem? (i := 55) rfl) rfl
theorem W4_56 : Cond.instanceMethod yX8_wins ∈ BIG := T4 (List.mem_of_getElem? (i := 56) rfl) rfl
theorem W4_57 : Cond.selects RX8 yX8_wins yX8_wins ∈ BIG := T4 (List.mem_of_getElem? (i := 57) rfl) rfl
theorem W4_58 : Cond.code yX8_wins cX8_wins 5 (Option.some Jvm.ClassFile.FieldType.int) ∈ BIG := T4 (List.mem_of_getElem? (i := 58) rfl) rfl
theorem W4_59 : Cond.methodLink RX8 209 yX8_whyNotSeeds ∈ BIG := T4 (List.mem_of_getElem? (i := 59) rfl) rfl
theorem W4_61 : Cond.instanceMethod yX8_whyNotSeeds ∈ BIG := T4 (List.mem_of_getElem? (i := 61) rfl) rfl
theorem W4_62 : Cond.code yX8_whyNotSeeds cX8_whyNotSeeds 3 (Option.some Jvm.ClassFile.FieldType.int) ∈ BIG := T4 (List.mem_of_getElem? (i := 62) rfl) rfl
theorem W4_63 : Cond.methodLink RX8 212 yX0_timesWinner ∈ BIG := T4 (List.mem_of_getElem? (i := 63) rfl) rfl
theorem W4_64 : Cond.instanceMethod yX0_timesWinner ∈ BIG := T4 (List.mem_of_getElem? (i := 64) rfl) rfl
theorem W4_65 : Cond.selects RX0 yX0_timesWinner yX0_timesWinner ∈ BIG := T4 (List.mem_of_getElem? (i := 65) rfl) rfl
theorem W4_66 : Cond.code yX0_timesWinner cX0_timesWinner 6 (Option.some Jvm.ClassFile.FieldType.int) ∈ BIG := T4 (List.mem_of_getElem? (i := 66) rfl) rfl
theorem W4_67 : Cond.methodLink RL 104 yX8_fairest ∈ BIG := T4 (List.mem_of_getElem? (i := 67) rfl) rfl
theorem W4_68 : Cond.instanceMethod yX8_fairest ∈ BIG := T4 (List.mem_of_getElem? (i := 68) rfl) rfl
theorem W4_69 : Cond.selects RX8 yX8_fairest yX8_fairest ∈ BIG := T4 (List.mem_of_getElem? (i := 69) rfl) rfl
theorem W4_70 : Cond.code yX8_fairest cX8_fairest 4 (Option.some Jvm.ClassFile.FieldType.int) ∈ BIG := T4 (List.mem_of_getElem? (i := 70) rfl) rfl
theorem W4_71 : Cond.methodLink RX8 215 yX0_formOfMostWinners ∈ BIG := T4 (List.mem_of_getElem? (i := 71) rfl) rfl
theorem W4_72 : Cond.instanceMethod yX0_formOfMostWinners ∈ BIG := T4 (List.mem_of_getElem? (i := 72) rfl) rfl
theorem W4_73 : Cond.selects RX0 yX0_formOfMostWinners yX0_formOfMostWinners ∈ BIG := T4 (List.mem_of_getElem? (i := 73) rfl) rfl
theorem W4_74 : Cond.code yX0_formOfMostWinners cX0_formOfMostWinners 10 (Option.some Jvm.ClassFile.FieldType.int) ∈ BIG := T4 (List.mem_of_getElem? (i := 74) rfl) rfl
theorem W4_75 : Cond.methodLink RX0 109 yX0_bitOf ∈ BIG := T4 (List.mem_of_getElem? (i := 75) rfl) rfl
theorem W4_76 : Cond.static yX0_bitOf ∈ BIG := T4 (List.mem_of_getElem? (i := 76) rfl) rfl
theorem W4_77 : Cond.code yX0_bitOf cX0_bitOf 1 (Option.some Jvm.ClassFile.FieldType.int) ∈ BIG := T4 (List.mem_of_getElem? (i := 77) rfl) rfl
theorem W4_78 : Cond.methodLink RX0 113 yJ6_bitCount_0f7a4 ∈ BIG := T4 (List.mem_of_getElem? (i := 78) rfl) rfl
theorem W4_79 : Cond.static yJ6_bitCount_0f7a4 ∈ BIG := T4 (List.mem_of_getElem? (i := 79) rfl) rfl
theorem W4_80 : Cond.code yJ6_bitCount_0f7a4 cJ6_bitCount_0f7a4 1 (Option.some Jvm.ClassFile.FieldType.int) ∈ BIG := T4 (List.mem_of_getElem? (i := 80) rfl) rfl
theorem W4_81 : Cond.constant RJ6 265 (1431655765) ∈ BIG := T4 (List.mem_of_getElem? (i := 81) rfl) rfl
theorem W4_82 : Cond.constant RJ6 266 (858993459) ∈ BIG := T4 (List.mem_of_getElem? (i := 82) rfl) rfl
theorem W4_83 : Cond.constant RJ6 267 (252645135) ∈ BIG := T4 (List.mem_of_getElem? (i := 83) rfl) rfl
theorem W4_84 : Cond.methodLink RL 108 yX8_shortest ∈ BIG := T4 (List.mem_of_getElem? (i := 84) rfl) rfl
theorem W4_85 : Cond.instanceMethod yX8_shortest ∈ BIG := T4 (List.mem_of_getElem? (i := 85) rfl) rfl
theorem W4_86 : Cond.selects RX8 yX8_shortest yX8_shortest ∈ BIG := T4 (List.mem_of_getElem? (i := 86) rfl) rfl
theorem W4_87 : Cond.code yX8_shortest cX8_shortest 1 (Option.some Jvm.ClassFile.FieldType.int) ∈ BIG := T4 (List.mem_of_getElem? (i := 87) rfl) rfl
theorem W4_88 : Cond.methodLink RX8 218 yX0_kindOfFewestTenths ∈ BIG := T4 (List.mem_of_getElem? (i := 88) rfl) rfl
theorem W4_89 : Cond.instanceMethod yX0_kindOfFewestTenths ∈ BIG := T4 (List.mem_of_getElem? (i := 89) rfl) rfl
theorem W4_90 : Cond.selects RX0 yX0_kindOfFewestTenths yX0_kindOfFewestTenths ∈ BIG := T4 (List.mem_of_getElem? (i := 90) rfl) rfl
theorem W4_91 : Cond.code yX0_kindOfFewestTenths cX0_kindOfFewestTenths 4 (Option.some Jvm.ClassFile.FieldType.int) ∈ BIG := T4 (List.mem_of_getElem? (i := 91) rfl) rfl
theorem W4_92 : Cond.constant RX0 118 (2147483647) ∈ BIG := T4 (List.mem_of_getElem? (i := 92) rfl) rfl
theorem W4_93 : Cond.methodLink RL 112 yX8_row ∈ BIG := T4 (List.mem_of_getElem? (i := 93) rfl) rfl
theorem W4_94 : Cond.instanceMethod yX8_row ∈ BIG := T4 (List.mem_of_getElem? (i := 94) rfl) rfl
theorem W4_95 : Cond.selects RX8 yX8_row yX8_row ∈ BIG := T4 (List.mem_of_getElem? (i := 95) rfl) rfl
theorem W4_96 : Cond.code yX8_row cX8_row 3 (Option.some Jvm.ClassFile.FieldType.int) ∈ BIG := T4 (List.mem_of_getElem? (i := 96) rfl) rfl
theorem W4_97 : Cond.methodLink RX8 221 yX1_isFull ∈ BIG := T4 (List.mem_of_getElem? (i := 97) rfl) rfl
theorem W4_98 : Cond.instanceMethod yX1_isFull ∈ BIG := T4 (List.mem_of_getElem? (i := 98) rfl) rfl
theorem W4_99 : Cond.selects RX1 yX1_isFull yX1_isFull ∈ BIG := T4 (List.mem_of_getElem? (i := 99) rfl) rfl
theorem W4_100 : Cond.code yX1_isFull cX1_isFull 1 (Option.some Jvm.ClassFile.FieldType.boolean) ∈ BIG := T4 (List.mem_of_getElem? (i := 100) rfl) rfl
theorem W4_101 : Cond.methodLink RX8 224 yX1_append ∈ BIG := T4 (List.mem_of_getElem? (i := 101) rfl) rfl
theorem W4_102 : Cond.instanceMethod yX1_append ∈ BIG := T4 (List.mem_of_getElem? (i := 102) rfl) rfl
theorem W4_103 : Cond.selects RX1 yX1_append yX1_append ∈ BIG := T4 (List.mem_of_getElem? (i := 103) rfl) rfl
theorem W4_104 : Cond.code yX1_append cX1_append 2 (Option.some Jvm.ClassFile.FieldType.int) ∈ BIG := T4 (List.mem_of_getElem? (i := 104) rfl) rfl
theorem W4_105 : Cond.methodLink RX1 19 yX1_isFull ∈ BIG := T4 (List.mem_of_getElem? (i := 105) rfl) rfl
theorem W4_106 : Cond.methodLink RL 116 yX8_could ∈ BIG := T4 (List.mem_of_getElem? (i := 106) rfl) rfl
theorem W4_107 : Cond.instanceMethod yX8_could ∈ BIG := T4 (List.mem_of_getElem? (i := 107) rfl) rfl
theorem W4_108 : Cond.selects RX8 yX8_could yX8_could ∈ BIG := T4 (List.mem_of_getElem? (i := 108) rfl) rfl
theorem W4_109 : Cond.code yX8_could cX8_could 3 (Option.some Jvm.ClassFile.FieldType.int) ∈ BIG := T4 (List.mem_of_getElem? (i := 109) rfl) rfl
theorem W4_110 : Cond.methodLink RX8 226 yX8_couldAllBeBy ∈ BIG := T4 (List.mem_of_getElem? (i := 110) rfl) rfl
theorem W4_112 : Cond.instanceMethod yX8_couldAllBeBy ∈ BIG := T4 (List.mem_of_getElem? (i := 112) rfl) rfl
theorem W4_113 : Cond.code yX8_couldAllBeBy cX8_couldAllBeBy 4 (Option.some Jvm.ClassFile.FieldType.boolean) ∈ BIG := T4 (List.mem_of_getElem? (i := 113) rfl) rfl
theorem W4_114 : Cond.methodLink RX8 264 yX1_at ∈ BIG := T4 (List.mem_of_getElem? (i := 114) rfl) rfl
theorem W4_115 : Cond.instanceMethod yX1_at ∈ BIG := T4 (List.mem_of_getElem? (i := 115) rfl) rfl
theorem W4_116 : Cond.selects RX1 yX1_at yX1_at ∈ BIG := T4 (List.mem_of_getElem? (i := 116) rfl) rfl
theorem W4_117 : Cond.code yX1_at cX1_at 2 (Option.some Jvm.ClassFile.FieldType.int) ∈ BIG := T4 (List.mem_of_getElem? (i := 117) rfl) rfl
theorem W4_118 : Cond.methodLink RX8 267 yX3_couldStop ∈ BIG := T4 (List.mem_of_getElem? (i := 118) rfl) rfl
theorem W4_119 : Cond.instanceMethod yX3_couldStop ∈ BIG := T4 (List.mem_of_getElem? (i := 119) rfl) rfl
theorem W4_120 : Cond.selects RX3 yX3_couldStop yX3_couldStop ∈ BIG := T4 (List.mem_of_getElem? (i := 120) rfl) rfl
theorem W4_121 : Cond.code yX3_couldStop cX3_couldStop 3 (Option.some Jvm.ClassFile.FieldType.boolean) ∈ BIG := T4 (List.mem_of_getElem? (i := 121) rfl) rfl
theorem W4_122 : Cond.methodLink RL 120 yX8_next ∈ BIG := T4 (List.mem_of_getElem? (i := 122) rfl) rfl
theorem W4_123 : Cond.instanceMethod yX8_next ∈ BIG := T4 (List.mem_of_getElem? (i := 123) rfl) rfl
theorem W4_124 : Cond.selects RX8 yX8_next yX8_next ∈ BIG := T4 (List.mem_of_getElem? (i := 124) rfl) rfl
theorem W4_125 : Cond.code yX8_next cX8_next 4 (Option.some Jvm.ClassFile.FieldType.int) ∈ BIG := T4 (List.mem_of_getElem? (i := 125) rfl) rfl
theorem W4_126 : Cond.methodLink RX8 230 yX1_hundredthsUpTo ∈ BIG := T4 (List.mem_of_getElem? (i := 126) rfl) rfl
theorem W4_127 : Cond.instanceMethod yX1_hundredthsUpTo ∈ BIG := T4 (List.mem_of_getElem? (i := 127) rfl) rfl
theorem W4_128 : Cond.selects RX1 yX1_hundredthsUpTo yX1_hundredthsUpTo ∈ BIG := T4 (List.mem_of_getElem? (i := 128) rfl) rfl
theorem W4_129 : Cond.code yX1_hundredthsUpTo cX1_hundredthsUpTo 4 (Option.some Jvm.ClassFile.FieldType.int) ∈ BIG := T4 (List.mem_of_getElem? (i := 129) rfl) rfl
theorem W4_130 : Cond.methodLink RL 124 yX8_team ∈ BIG := T4 (List.mem_of_getElem? (i := 130) rfl) rfl
theorem W4_131 : Cond.instanceMethod yX8_team ∈ BIG := T4 (List.mem_of_getElem? (i := 131) rfl) rfl
theorem W4_132 : Cond.selects RX8 yX8_team yX8_team ∈ BIG := T4 (List.mem_of_getElem? (i := 132) rfl) rfl
theorem W4_133 : Cond.code yX8_team cX8_team 6 (Option.some Jvm.ClassFile.FieldType.int) ∈ BIG := T4 (List.mem_of_getElem? (i := 133) rfl) rfl
theorem W4_134 : Cond.methodLink RX8 233 yX0_teamGain ∈ BIG := T4 (List.mem_of_getElem? (i := 134) rfl) rfl
theorem W4_135 : Cond.instanceMethod yX0_teamGain ∈ BIG := T4 (List.mem_of_getElem? (i := 135) rfl) rfl
theorem W4_136 : Cond.selects RX0 yX0_teamGain yX0_teamGain ∈ BIG := T4 (List.mem_of_getElem? (i := 136) rfl) rfl
theorem W4_137 : Cond.code yX0_teamGain cX0_teamGain 10 (Option.some Jvm.ClassFile.FieldType.int) ∈ BIG := T4 (List.mem_of_getElem? (i := 137) rfl) rfl
theorem W4_138 : Cond.methodLink RX8 236 yX0_sitsWhenHeld ∈ BIG := T4 (List.mem_of_getElem? (i := 138) rfl) rfl
theorem W4_139 : Cond.instanceMethod yX0_sitsWhenHeld ∈ BIG := T4 (List.mem_of_getElem? (i := 139) rfl) rfl
theorem W4_140 : Cond.selects RX0 yX0_sitsWhenHeld yX0_sitsWhenHeld ∈ BIG := T4 (List.mem_of_getElem? (i := 140) rfl) rfl
theorem W4_141 : Cond.code yX0_sitsWhenHeld cX0_sitsWhenHeld 9 (Option.some Jvm.ClassFile.FieldType.int) ∈ BIG := T4 (List.mem_of_getElem? (i := 141) rfl) rfl
theorem W4_142 : Cond.methodLink RX0 126 yX5_placeOf ∈ BIG := T4 (List.mem_of_getElem? (i := 142) rfl) rfl
theorem W4_143 : Cond.methodLink RX0 133 yX4_far ∈ BIG := T4 (List.mem_of_getElem? (i := 143) rfl) rfl
theorem W4_144 : Cond.methodLink RL 129 yX8_film ∈ BIG := T4 (List.mem_of_getElem? (i := 144) rfl) rfl
theorem W4_145 : Cond.instanceMethod yX8_film ∈ BIG := T4 (List.mem_of_getElem? (i := 145) rfl) rfl
theorem W4_146 : Cond.selects RX8 yX8_film yX8_film ∈ BIG := T4 (List.mem_of_getElem? (i := 146) rfl) rfl
theorem W4_147 : Cond.code yX8_film cX8_film 2 (Option.some Jvm.ClassFile.FieldType.int) ∈ BIG := T4 (List.mem_of_getElem? (i := 147) rfl) rfl
theorem W4_148 : Cond.methodLink RL 133 yX8_judge ∈ BIG := T4 (List.mem_of_getElem? (i := 148) rfl) rfl
theorem W4_149 : Cond.instanceMethod yX8_judge ∈ BIG := T4 (List.mem_of_getElem? (i := 149) rfl) rfl
theorem W4_150 : Cond.selects RX8 yX8_judge yX8_judge ∈ BIG := T4 (List.mem_of_getElem? (i := 150) rfl) rfl
theorem W4_151 : Cond.code yX8_judge cX8_judge 3 (Option.some Jvm.ClassFile.FieldType.int) ∈ BIG := T4 (List.mem_of_getElem? (i := 151) rfl) rfl
theorem W4_152 : Cond.methodLink RX8 239 yX0_firstWrong ∈ BIG := T4 (List.mem_of_getElem? (i := 152) rfl) rfl
theorem W4_153 : Cond.instanceMethod yX0_firstWrong ∈ BIG := T4 (List.mem_of_getElem? (i := 153) rfl) rfl
theorem W4_154 : Cond.selects RX0 yX0_firstWrong yX0_firstWrong ∈ BIG := T4 (List.mem_of_getElem? (i := 154) rfl) rfl
theorem W4_155 : Cond.code yX0_firstWrong cX0_firstWrong 4 (Option.some Jvm.ClassFile.FieldType.int) ∈ BIG := T4 (List.mem_of_getElem? (i := 155) rfl) rfl
theorem W4_156 : Cond.methodLink RX0 149 yX1_at ∈ BIG := T4 (List.mem_of_getElem? (i := 156) rfl) rfl
theorem W4_157 : Cond.methodLink RL 137 yX8_image ∈ BIG := T4 (List.mem_of_getElem? (i := 157) rfl) rfl
theorem W4_158 : Cond.instanceMethod yX8_image ∈ BIG := T4 (List.mem_of_getElem? (i := 158) rfl) rfl
theorem W4_159 : Cond.selects RX8 yX8_image yX8_image ∈ BIG := T4 (List.mem_of_getElem? (i := 159) rfl) rfl
theorem W4_160 : Cond.code yX8_image cX8_image 1 (Option.some Jvm.ClassFile.FieldType.int) ∈ BIG := T4 (List.mem_of_getElem? (i := 160) rfl) rfl
theorem W4_161 : Cond.methodLink RX8 243 yX2_become ∈ BIG := T4 (List.mem_of_getElem? (i := 161) rfl) rfl
theorem W4_162 : Cond.methodLink RL 141 yX8_restore ∈ BIG := T4 (List.mem_of_getElem? (i := 162) rfl) rfl
theorem W4_163 : Cond.instanceMethod yX8_restore ∈ BIG := T4 (List.mem_of_getElem? (i := 163) rfl) rfl
theorem W4_164 : Cond.selects RX8 yX8_restore yX8_restore ∈ BIG := T4 (List.mem_of_getElem? (i := 164) rfl) rfl
theorem W4_165 : Cond.code yX8_restore cX8_restore 1 (Option.some Jvm.ClassFile.FieldType.int) ∈ BIG := T4 (List.mem_of_getElem? (i := 165) rfl) rfl
theorem W4_166 : Cond.methodLink RL 145 yX8_count ∈ BIG := T4 (List.mem_of_getElem? (i := 166) rfl) rfl
theorem W4_167 : Cond.instanceMethod yX8_count ∈ BIG := T4 (List.mem_of_getElem? (i := 167) rfl) rfl
theorem W4_168 : Cond.selects RX8 yX8_count yX8_count ∈ BIG := T4 (List.mem_of_getElem? (i := 168) rfl) rfl
theorem W4_169 : Cond.code yX8_count cX8_count 2 (Option.some Jvm.ClassFile.FieldType.int) ∈ BIG := T4 (List.mem_of_getElem? (i := 169) rfl) rfl
theorem W4_170 : Cond.methodLink RX8 255 yX2_countIn ∈ BIG := T4 (List.mem_of_getElem? (i := 170) rfl) rfl
theorem W4_171 : Cond.classLink RL 10 RX9 ∈ BIG := T4 (List.mem_of_getElem? (i := 171) rfl) rfl
theorem W4_172 : Cond.instantiable RX9 44 ∈ BIG := T4 (List.mem_of_getElem? (i := 172) rfl) rfl
theorem W4_173 : Cond.methodLink RL 12 yX9_init ∈ BIG := T4 (List.mem_of_getElem? (i := 173) rfl) rfl
theorem W4_174 : Cond.instanceMethod yX9_init ∈ BIG := T4 (List.mem_of_getElem? (i := 174) rfl) rfl
theorem W4_175 : Cond.code yX9_init cX9_init 1 (Option.none : Option Jvm.ClassFile.FieldType) ∈ BIG := T4 (List.mem_of_getElem? (i := 175) rfl) rfl
theorem W4_176 : Cond.methodLink RX9 1 objectInit ∈ BIG := T4 (List.mem_of_getElem? (i := 176) rfl) rfl
theorem W4_177 : Cond.fieldLink RX9 7 "ChairTooFewModel" "refused" "[I" ∈ BIG := T4 (List.mem_of_getElem? (i := 177) rfl) rfl
theorem W4_178 : Cond.fieldLink RX9 13 "ChairTooFewModel" "chair" "[I" ∈ BIG := T4 (List.mem_of_getElem? (i := 178) rfl) rfl
theorem W4_179 : Cond.fieldLink RX9 16 "ChairTooFewModel" "place" "[I" ∈ BIG := T4 (List.mem_of_getElem? (i := 179) rfl) rfl
theorem W4_180 : Cond.fieldLink RX9 19 "ChairTooFewModel" "parts" "[I" ∈ BIG := T4 (List.mem_of_getElem? (i := 180) rfl) rfl
theorem W4_181 : Cond.fieldLink RX9 22 "ChairTooFewModel" "in" "[I" ∈ BIG := T4 (List.mem_of_getElem? (i := 181) rfl) rfl
theorem W4_182 : Cond.fieldLink RX9 25 "ChairTooFewModel" "kind" "[I" ∈ BIG := T4 (List.mem_of_getElem? (i := 182) rfl) rfl
theorem W4_183 : Cond.fieldLink RX9 28 "ChairTooFewModel" "fast" "[I" ∈ BIG := T4 (List.mem_of_getElem? (i := 183) rfl) rfl
theorem W4_184 : Cond.fieldLink RX9 31 "ChairTooFewModel" "slow" "[I" ∈ BIG := T4 (List.mem_of_getElem? (i := 184) rfl) rfl
theorem W4_185 : Cond.fieldLink RX9 34 "ChairTooFewModel" "reach" "[I" ∈ BIG := T4 (List.mem_of_getElem? (i := 185) rfl) rfl
theorem W4_186 : Cond.fieldLink RX9 37 "ChairTooFewModel" "size" "[I" ∈ BIG := T4 (List.mem_of_getElem? (i := 186) rfl) rfl
theorem W4_187 : Cond.fieldLink RX9 40 "ChairTooFewModel" "manners" "[I" ∈ BIG := T4 (List.mem_of_getElem? (i := 187) rfl) rfl
theorem W4_188 : Cond.fieldLink RX9 43 "ChairTooFewModel" "places" "I" ∈ BIG := T4 (List.mem_of_getElem? (i := 188) rfl) rfl
theorem W4_189 : Cond.fieldLink RX9 86 "ChairTooFewModel" "walkers" "I" ∈ BIG := T4 (List.mem_of_getElem? (i := 189) rfl) rfl
theorem W4_190 : Cond.fieldLink RX9 126 "ChairTooFewModel" "playerKind" "I" ∈ BIG := T4 (List.mem_of_getElem? (i := 190) rfl) rfl
theorem W4_191 : Cond.fieldLink RX9 47 "ChairTooFewModel" "figure" "I" ∈ BIG := T4 (List.mem_of_getElem? (i := 191) rfl) rfl
theorem W4_192 : Cond.fieldLink RX9 129 "ChairTooFewModel" "form" "I" ∈ BIG := T4 (List.mem_of_getElem? (i := 192) rfl) rfl
theorem W4_193 : Cond.fieldLink RX9 50 "ChairTooFewModel" "lots" "I" ∈ BIG := T4 (List.mem_of_getElem? (i := 193) rfl) rfl
theorem W4_194 : Cond.fieldLink RX9 184 "ChairTooFewModel" "tenths" "I" ∈ BIG := T4 (List.mem_of_getElem? (i := 194) rfl) rfl
theorem W4_195 : Cond.fieldLink RX9 187 "ChairTooFewModel" "rounds" "I" ∈ BIG := T4 (List.mem_of_getElem? (i := 195) rfl) rfl
theorem W4_196 : Cond.fieldLink RX9 89 "ChairTooFewModel" "hasEnded" "I" ∈ BIG := T4 (List.mem_of_getElem? (i := 196) rfl) rfl
theorem W4_197 : Cond.fieldLink RX9 53 "ChairTooFewModel" "tape" "[I" ∈ BIG := T4 (List.mem_of_getElem? (i := 197) rfl) rfl
theorem W4_198 : Cond.fieldLink RX9 56 "ChairTooFewModel" "letter" "[I" ∈ BIG := T4 (List.mem_of_getElem? (i := 198) rfl) rfl
theorem W4_199 : Cond.fieldLink RX9 59 "ChairTooFewModel" "letterAt" "[I" ∈ BIG := T4 (List.mem_of_getElem? (i := 199) rfl) rfl
theorem W4_200 : Cond.fieldLink RX9 62 "ChairTooFewModel" "first" "[I" ∈ BIG := T4 (List.mem_of_getElem? (i := 200) rfl) rfl
theorem W4_201 : Cond.fieldLink RX9 65 "ChairTooFewModel" "second" "[I" ∈ BIG := T4 (List.mem_of_getElem? (i := 201) rfl) rfl
theorem W4_202 : Cond.fieldLink RX9 68 "ChairTooFewModel" "third" "[I" ∈ BIG := T4 (List.mem_of_getElem? (i := 202) rfl) rfl
theorem W4_203 : Cond.fieldLink RX9 139 "ChairTooFewModel" "taped" "I" ∈ BIG := T4 (List.mem_of_getElem? (i := 203) rfl) rfl
theorem W4_204 : Cond.fieldLink RX9 144 "ChairTooFewModel" "at" "I" ∈ BIG := T4 (List.mem_of_getElem? (i := 204) rfl) rfl
theorem W4_205 : Cond.fieldLink RX9 150 "ChairTooFewModel" "statements" "I" ∈ BIG := T4 (List.mem_of_getElem? (i := 205) rfl) rfl
theorem W4_206 : Cond.fieldLink RX9 71 "ChairTooFewModel" "kept" "[I" ∈ BIG := T4 (List.mem_of_getElem? (i := 206) rfl) rfl
theorem W4_207 : Cond.fieldLink RX9 281 "ChairTooFewModel" "hasImage" "Z" ∈ BIG := T4 (List.mem_of_getElem? (i := 207) rfl) rfl
theorem W4_208 : Cond.fieldLink RX9 170 "ChairTooFewModel" "isKeeping" "Z" ∈ BIG := T4 (List.mem_of_getElem? (i := 208) rfl) rfl
theorem W4_209 : Cond.fieldLink RX9 174 "ChairTooFewModel" "cursor" "I" ∈ BIG := T4 (List.mem_of_getElem? (i := 209) rfl) rfl
theorem W4_210 : Cond.fieldLink RX9 74 "ChairTooFewModel" "seat" "[I" ∈ BIG := T4 (List.mem_of_getElem? (i := 210) rfl) rfl
theorem W4_211 : Cond.fieldLink RX9 77 "ChairTooFewModel" "often" "[I" ∈ BIG := T4 (List.mem_of_getElem? (i := 211) rfl) rfl
theorem W4_212 : Cond.fieldLink RX9 242 "ChairTooFewModel" "together" "I" ∈ BIG := T4 (List.mem_of_getElem? (i := 212) rfl) rfl
theorem W4_213 : Cond.fieldLink RX9 245 "ChairTooFewModel" "held" "I" ∈ BIG := T4 (List.mem_of_getElem? (i := 213) rfl) rfl
theorem W4_214 : Cond.fieldLink RX9 260 "ChairTooFewModel" "partyTenths" "I" ∈ BIG := T4 (List.mem_of_getElem? (i := 214) rfl) rfl
theorem W4_215 : Cond.fieldLink RX9 263 "ChairTooFewModel" "partyRounds" "I" ∈ BIG := T4 (List.mem_of_getElem? (i := 215) rfl) rfl
theorem W4_216 : Cond.fieldLink RX9 266 "ChairTooFewModel" "winner" "I" ∈ BIG := T4 (List.mem_of_getElem? (i := 216) rfl) rfl
theorem W4_217 : Cond.fieldLink RX9 80 "ChairTooFewModel" "row" "[I" ∈ BIG := T4 (List.mem_of_getElem? (i := 217) rfl) rfl
theorem W4_218 : Cond.fieldLink RX9 83 "ChairTooFewModel" "film" "[I" ∈ BIG := T4 (List.mem_of_getElem? (i := 218) rfl) rfl
theorem W4_219 : Cond.fieldLink RX9 275 "ChairTooFewModel" "rowMany" "I" ∈ BIG := T4 (List.mem_of_getElem? (i := 219) rfl) rfl
theorem W4_220 : Cond.fieldLink RX9 278 "ChairTooFewModel" "filmMany" "I" ∈ BIG := T4 (List.mem_of_getElem? (i := 220) rfl) rfl
theorem W4_221 : Cond.laysFinal RX9 "ChairTooFewModel" "refused" "[I" ∈ BIG := T4 (List.mem_of_getElem? (i := 221) rfl) rfl
theorem W4_223 : Cond.laysFinal RX9 "ChairTooFewModel" "chair" "[I" ∈ BIG := T4 (List.mem_of_getElem? (i := 223) rfl) rfl
theorem W4_225 : Cond.laysFinal RX9 "ChairTooFewModel" "place" "[I" ∈ BIG := T4 (List.mem_of_getElem? (i := 225) rfl) rfl
theorem W4_227 : Cond.laysFinal RX9 "ChairTooFewModel" "parts" "[I" ∈ BIG := T4 (List.mem_of_getElem? (i := 227) rfl) rfl
theorem W4_229 : Cond.laysFinal RX9 "ChairTooFewModel" "in" "[I" ∈ BIG := T4 (List.mem_of_getElem? (i := 229) rfl) rfl
theorem W4_231 : Cond.laysFinal RX9 "ChairTooFewModel" "kind" "[I" ∈ BIG := T4 (List.mem_of_getElem? (i := 231) rfl) rfl
theorem W4_233 : Cond.laysFinal RX9 "ChairTooFewModel" "fast" "[I" ∈ BIG := T4 (List.mem_of_getElem? (i := 233) rfl) rfl
theorem W4_235 : Cond.laysFinal RX9 "ChairTooFewModel" "slow" "[I" ∈ BIG := T4 (List.mem_of_getElem? (i := 235) rfl) rfl
theorem W4_237 : Cond.laysFinal RX9 "ChairTooFewModel" "reach" "[I" ∈ BIG := T4 (List.mem_of_getElem? (i := 237) rfl) rfl
theorem W4_239 : Cond.laysFinal RX9 "ChairTooFewModel" "size" "[I" ∈ BIG := T4 (List.mem_of_getElem? (i := 239) rfl) rfl
theorem W5_1 : Cond.laysFinal RX9 "ChairTooFewModel" "manners" "[I" ∈ BIG := T5 (List.mem_of_getElem? (i := 1) rfl) rfl
theorem W5_3 : Cond.lays RX9 "ChairTooFewModel" "places" "I" ∈ BIG := T5 (List.mem_of_getElem? (i := 3) rfl) rfl
theorem W5_5 : Cond.lays RX9 "ChairTooFewModel" "walkers" "I" ∈ BIG := T5 (List.mem_of_getElem? (i := 5) rfl) rfl
theorem W5_7 : Cond.lays RX9 "ChairTooFewModel" "playerKind" "I" ∈ BIG := T5 (List.mem_of_getElem? (i := 7) rfl) rfl
theorem W5_9 : Cond.lays RX9 "ChairTooFewModel" "figure" "I" ∈ BIG := T5 (List.mem_of_getElem? (i := 9) rfl) rfl
theorem W5_11 : Cond.lays RX9 "ChairTooFewModel" "form" "I" ∈ BIG := T5 (List.mem_of_getElem? (i := 11) rfl) rfl
theorem W5_13 : Cond.lays RX9 "ChairTooFewModel" "lots" "I" ∈ BIG := T5 (List.mem_of_getElem? (i := 13) rfl) rfl
theorem W5_15 : Cond.lays RX9 "ChairTooFewModel" "tenths" "I" ∈ BIG := T5 (List.mem_of_getElem? (i := 15) rfl) rfl
theorem W5_17 : Cond.lays RX9 "ChairTooFewModel" "rounds" "I" ∈ BIG := T5 (List.mem_of_getElem? (i := 17) rfl) rfl
theorem W5_19 : Cond.lays RX9 "ChairTooFewModel" "hasEnded" "I" ∈ BIG := T5 (List.mem_of_getElem? (i := 19) rfl) rfl
theorem W5_21 : Cond.laysFinal RX9 "ChairTooFewModel" "tape" "[I" ∈ BIG := T5 (List.mem_of_getElem? (i := 21) rfl) rfl
theorem W5_23 : Cond.laysFinal RX9 "ChairTooFewModel" "letter" "[I" ∈ BIG := T5 (List.mem_of_getElem? (i := 23) rfl) rfl
theorem W5_25 : Cond.laysFinal RX9 "ChairTooFewModel" "letterAt" "[I" ∈ BIG := T5 (List.mem_of_getElem? (i := 25) rfl) rfl
theorem W5_27 : Cond.laysFinal RX9 "ChairTooFewModel" "first" "[I" ∈ BIG := T5 (List.mem_of_getElem? (i := 27) rfl) rfl
theorem W5_29 : Cond.laysFinal RX9 "ChairTooFewModel" "second" "[I" ∈ BIG := T5 (List.mem_of_getElem? (i := 29) rfl) rfl
theorem W5_31 : Cond.laysFinal RX9 "ChairTooFewModel" "third" "[I" ∈ BIG := T5 (List.mem_of_getElem? (i := 31) rfl) rfl
theorem W5_33 : Cond.lays RX9 "ChairTooFewModel" "taped" "I" ∈ BIG := T5 (List.mem_of_getElem? (i := 33) rfl) rfl
theorem W5_35 : Cond.lays RX9 "ChairTooFewModel" "at" "I" ∈ BIG := T5 (List.mem_of_getElem? (i := 35) rfl) rfl
theorem W5_37 : Cond.lays RX9 "ChairTooFewModel" "statements" "I" ∈ BIG := T5 (List.mem_of_getElem? (i := 37) rfl) rfl
theorem W5_39 : Cond.laysFinal RX9 "ChairTooFewModel" "kept" "[I" ∈ BIG := T5 (List.mem_of_getElem? (i := 39) rfl) rfl
theorem W5_41 : Cond.lays RX9 "ChairTooFewModel" "hasImage" "Z" ∈ BIG := T5 (List.mem_of_getElem? (i := 41) rfl) rfl
theorem W5_43 : Cond.lays RX9 "ChairTooFewModel" "isKeeping" "Z" ∈ BIG := T5 (List.mem_of_getElem? (i := 43) rfl) rfl
theorem W5_45 : Cond.lays RX9 "ChairTooFewModel" "cursor" "I" ∈ BIG := T5 (List.mem_of_getElem? (i := 45) rfl) rfl
theorem W5_47 : Cond.laysFinal RX9 "ChairTooFewModel" "seat" "[I" ∈ BIG := T5 (List.mem_of_getElem? (i := 47) rfl) rfl
theorem W5_49 : Cond.laysFinal RX9 "ChairTooFewModel" "often" "[I" ∈ BIG := T5 (List.mem_of_getElem? (i := 49) rfl) rfl
theorem W5_51 : Cond.lays RX9 "ChairTooFewModel" "together" "I" ∈ BIG := T5 (List.mem_of_getElem? (i := 51) rfl) rfl
theorem W5_53 : Cond.lays RX9 "ChairTooFewModel" "held" "I" ∈ BIG := T5 (List.mem_of_getElem? (i := 53) rfl) rfl
theorem W5_55 : Cond.lays RX9 "ChairTooFewModel" "partyTenths" "I" ∈ BIG := T5 (List.mem_of_getElem? (i := 55) rfl) rfl
theorem W5_57 : Cond.lays RX9 "ChairTooFewModel" "partyRounds" "I" ∈ BIG := T5 (List.mem_of_getElem? (i := 57) rfl) rfl
theorem W5_59 : Cond.lays RX9 "ChairTooFewModel" "winner" "I" ∈ BIG := T5 (List.mem_of_getElem? (i := 59) rfl) rfl
theorem W5_61 : Cond.laysFinal RX9 "ChairTooFewModel" "row" "[I" ∈ BIG := T5 (List.mem_of_getElem? (i := 61) rfl) rfl
theorem W5_63 : Cond.laysFinal RX9 "ChairTooFewModel" "film" "[I" ∈ BIG := T5 (List.mem_of_getElem? (i := 63) rfl) rfl
theorem W5_65 : Cond.lays RX9 "ChairTooFewModel" "rowMany" "I" ∈ BIG := T5 (List.mem_of_getElem? (i := 65) rfl) rfl
theorem W5_67 : Cond.lays RX9 "ChairTooFewModel" "filmMany" "I" ∈ BIG := T5 (List.mem_of_getElem? (i := 67) rfl) rfl
theorem W5_70 : Cond.methodLink RL 29 yX9_chair ∈ BIG := T5 (List.mem_of_getElem? (i := 70) rfl) rfl
theorem W5_71 : Cond.instanceMethod yX9_chair ∈ BIG := T5 (List.mem_of_getElem? (i := 71) rfl) rfl
theorem W5_72 : Cond.selects RX9 yX9_chair yX9_chair ∈ BIG := T5 (List.mem_of_getElem? (i := 72) rfl) rfl
theorem W5_73 : Cond.code yX9_chair cX9_chair 2 (Option.some Jvm.ClassFile.FieldType.int) ∈ BIG := T5 (List.mem_of_getElem? (i := 73) rfl) rfl
theorem W5_74 : Cond.methodLink RX9 92 yX9_isPlace ∈ BIG := T5 (List.mem_of_getElem? (i := 74) rfl) rfl
theorem W5_76 : Cond.instanceMethod yX9_isPlace ∈ BIG := T5 (List.mem_of_getElem? (i := 76) rfl) rfl
theorem W5_77 : Cond.code yX9_isPlace cX9_isPlace 2 (Option.some Jvm.ClassFile.FieldType.boolean) ∈ BIG := T5 (List.mem_of_getElem? (i := 77) rfl) rfl
theorem W5_78 : Cond.methodLink RX9 96 yX9_no ∈ BIG := T5 (List.mem_of_getElem? (i := 78) rfl) rfl
theorem W5_80 : Cond.instanceMethod yX9_no ∈ BIG := T5 (List.mem_of_getElem? (i := 80) rfl) rfl
theorem W5_81 : Cond.code yX9_no cX9_no 2 (Option.some Jvm.ClassFile.FieldType.int) ∈ BIG := T5 (List.mem_of_getElem? (i := 81) rfl) rfl
theorem W5_82 : Cond.methodLink RX9 100 yX9_chairs ∈ BIG := T5 (List.mem_of_getElem? (i := 82) rfl) rfl
theorem W5_84 : Cond.instanceMethod yX9_chairs ∈ BIG := T5 (List.mem_of_getElem? (i := 84) rfl) rfl
theorem W5_85 : Cond.code yX9_chairs cX9_chairs 3 (Option.some Jvm.ClassFile.FieldType.int) ∈ BIG := T5 (List.mem_of_getElem? (i := 85) rfl) rfl
theorem W5_86 : Cond.methodLink RX9 104 yX9_comesChair ∈ BIG := T5 (List.mem_of_getElem? (i := 86) rfl) rfl
theorem W5_88 : Cond.instanceMethod yX9_comesChair ∈ BIG := T5 (List.mem_of_getElem? (i := 88) rfl) rfl
theorem W5_89 : Cond.code yX9_comesChair cX9_comesChair 2 (Option.none : Option Jvm.ClassFile.FieldType) ∈ BIG := T5 (List.mem_of_getElem? (i := 89) rfl) rfl
theorem W5_90 : Cond.methodLink RL 34 yX9_walker ∈ BIG := T5 (List.mem_of_getElem? (i := 90) rfl) rfl
theorem W5_91 : Cond.instanceMethod yX9_walker ∈ BIG := T5 (List.mem_of_getElem? (i := 91) rfl) rfl
theorem W5_92 : Cond.selects RX9 yX9_walker yX9_walker ∈ BIG := T5 (List.mem_of_getElem? (i := 92) rfl) rfl
theorem W5_93 : Cond.code yX9_walker cX9_walker 5 (Option.some Jvm.ClassFile.FieldType.int) ∈ BIG := T5 (List.mem_of_getElem? (i := 93) rfl) rfl
theorem W5_94 : Cond.methodLink RX9 108 yX9_isIn ∈ BIG := T5 (List.mem_of_getElem? (i := 94) rfl) rfl
theorem W5_95 : Cond.static yX9_isIn ∈ BIG := T5 (List.mem_of_getElem? (i := 95) rfl) rfl
theorem W5_96 : Cond.code yX9_isIn cX9_isIn 3 (Option.some Jvm.ClassFile.FieldType.boolean) ∈ BIG := T5 (List.mem_of_getElem? (i := 96) rfl) rfl
theorem W5_97 : Cond.methodLink RX9 112 yX9_bound ∈ BIG := T5 (List.mem_of_getElem? (i := 97) rfl) rfl
theorem W5_98 : Cond.static yX9_bound ∈ BIG := T5 (List.mem_of_getElem? (i := 98) rfl) rfl
theorem W5_99 : Cond.code yX9_bound cX9_bound 3 (Option.some Jvm.ClassFile.FieldType.int) ∈ BIG := T5 (List.mem_of_getElem? (i := 99) rfl) rfl
theorem W5_100 : Cond.methodLink RX9 116 yX9_isTaken ∈ BIG := T5 (List.mem_of_getElem? (i := 100) rfl) rfl
theorem W5_102 : Cond.instanceMethod yX9_isTaken ∈ BIG := T5 (List.mem_of_getElem? (i := 102) rfl) rfl
theorem W5_103 : Cond.code yX9_isTaken cX9_isTaken 3 (Option.some Jvm.ClassFile.FieldType.boolean) ∈ BIG := T5 (List.mem_of_getElem? (i := 103) rfl) rfl
theorem W5_104 : Cond.methodLink RX9 119 yX9_comesWalker ∈ BIG := T5 (List.mem_of_getElem? (i := 104) rfl) rfl
theorem W5_106 : Cond.instanceMethod yX9_comesWalker ∈ BIG := T5 (List.mem_of_getElem? (i := 106) rfl) rfl
theorem W5_107 : Cond.code yX9_comesWalker cX9_comesWalker 4 (Option.none : Option Jvm.ClassFile.FieldType) ∈ BIG := T5 (List.mem_of_getElem? (i := 107) rfl) rfl
theorem W5_108 : Cond.methodLink RL 38 yX9_set ∈ BIG := T5 (List.mem_of_getElem? (i := 108) rfl) rfl
theorem W5_109 : Cond.instanceMethod yX9_set ∈ BIG := T5 (List.mem_of_getElem? (i := 109) rfl) rfl
theorem W5_110 : Cond.selects RX9 yX9_set yX9_set ∈ BIG := T5 (List.mem_of_getElem? (i := 110) rfl) rfl
theorem W5_111 : Cond.code yX9_set cX9_set 7 (Option.some Jvm.ClassFile.FieldType.int) ∈ BIG := T5 (List.mem_of_getElem? (i := 111) rfl) rfl
theorem W5_112 : Cond.methodLink RX9 123 yX9_isWalker ∈ BIG := T5 (List.mem_of_getElem? (i := 112) rfl) rfl
theorem W5_114 : Cond.instanceMethod yX9_isWalker ∈ BIG := T5 (List.mem_of_getElem? (i := 114) rfl) rfl
theorem W5_115 : Cond.code yX9_isWalker cX9_isWalker 2 (Option.some Jvm.ClassFile.FieldType.boolean) ∈ BIG := T5 (List.mem_of_getElem? (i := 115) rfl) rfl
theorem W5_116 : Cond.methodLink RL 43 yX9_player ∈ BIG := T5 (List.mem_of_getElem? (i := 116) rfl) rfl
theorem W5_117 : Cond.instanceMethod yX9_player ∈ BIG := T5 (List.mem_of_getElem? (i := 117) rfl) rfl
theorem W5_118 : Cond.selects RX9 yX9_player yX9_player ∈ BIG := T5 (List.mem_of_getElem? (i := 118) rfl) rfl
theorem W5_119 : Cond.code yX9_player cX9_player 5 (Option.some Jvm.ClassFile.FieldType.int) ∈ BIG := T5 (List.mem_of_getElem? (i := 119) rfl) rfl
theorem W5_120 : Cond.methodLink RL 47 yX9_form ∈ BIG := T5 (List.mem_of_getElem? (i := 120) rfl) rfl
theorem W5_121 : Cond.instanceMethod yX9_form ∈ BIG := T5 (List.mem_of_getElem? (i := 121) rfl) rfl
theorem W5_122 : Cond.selects RX9 yX9_form yX9_form ∈ BIG := T5 (List.mem_of_getElem? (i := 122) rfl) rfl
theorem W5_123 : Cond.code yX9_form cX9_form 4 (Option.some Jvm.ClassFile.FieldType.int) ∈ BIG := T5 (List.mem_of_getElem? (i := 123) rfl) rfl
theorem W5_124 : Cond.methodLink RL 51 yX9_seed ∈ BIG := T5 (List.mem_of_getElem? (i := 124) rfl) rfl
theorem W5_125 : Cond.instanceMethod yX9_seed ∈ BIG := T5 (List.mem_of_getElem? (i := 125) rfl) rfl
theorem W5_126 : Cond.selects RX9 yX9_seed yX9_seed ∈ BIG := T5 (List.mem_of_getElem? (i := 126) rfl) rfl
theorem W5_127 : Cond.code yX9_seed cX9_seed 3 (Option.some Jvm.ClassFile.FieldType.int) ∈ BIG := T5 (List.mem_of_getElem? (i := 127) rfl) rfl
theorem W5_128 : Cond.methodLink RL 55 yX9_of ∈ BIG := T5 (List.mem_of_getElem? (i := 128) rfl) rfl
theorem W5_129 : Cond.instanceMethod yX9_of ∈ BIG := T5 (List.mem_of_getElem? (i := 129) rfl) rfl
theorem W5_130 : Cond.selects RX9 yX9_of yX9_of ∈ BIG := T5 (List.mem_of_getElem? (i := 130) rfl) rfl
theorem W5_131 : Cond.code yX9_of cX9_of 3 (Option.some Jvm.ClassFile.FieldType.int) ∈ BIG := T5 (List.mem_of_getElem? (i := 131) rfl) rfl
theorem W5_132 : Cond.methodLink RL 59 yX9_has ∈ BIG := T5 (List.mem_of_getElem? (i := 132) rfl) rfl
theorem W5_133 : Cond.instanceMethod yX9_has ∈ BIG := T5 (List.mem_of_getElem? (i := 133) rfl) rfl
theorem W5_134 : Cond.selects RX9 yX9_has yX9_has ∈ BIG := T5 (List.mem_of_getElem? (i := 134) rfl) rfl
theorem W5_135 : Cond.code yX9_has cX9_has 2 (Option.some Jvm.ClassFile.FieldType.int) ∈ BIG := T5 (List.mem_of_getElem? (i := 135) rfl) rfl
theorem W5_136 : Cond.methodLink RL 63 yX9_haste ∈ BIG := T5 (List.mem_of_getElem? (i := 136) rfl) rfl
theorem W5_137 : Cond.instanceMethod yX9_haste ∈ BIG := T5 (List.mem_of_getElem? (i := 137) rfl) rfl
theorem W5_138 : Cond.selects RX9 yX9_haste yX9_haste ∈ BIG := T5 (List.mem_of_getElem? (i := 138) rfl) rfl
theorem W5_139 : Cond.code yX9_haste cX9_haste 3 (Option.some Jvm.ClassFile.FieldType.int) ∈ BIG := T5 (List.mem_of_getElem? (i := 139) rfl) rfl
theorem W5_140 : Cond.methodLink RX9 136 yX9_hasteOf ∈ BIG := T5 (List.mem_of_getElem? (i := 140) rfl) rfl
theorem W5_142 : Cond.instanceMethod yX9_hasteOf ∈ BIG := T5 (List.mem_of_getElem? (i := 142) rfl) rfl
theorem W5_143 : Cond.code yX9_hasteOf cX9_hasteOf 5 (Option.some Jvm.ClassFile.FieldType.int) ∈ BIG := T5 (List.mem_of_getElem? (i := 143) rfl) rfl
theorem W5_144 : Cond.methodLink RX9 132 yX9_far ∈ BIG := T5 (List.mem_of_getElem? (i := 144) rfl) rfl
theorem W5_146 : Cond.instanceMethod yX9_far ∈ BIG := T5 (List.mem_of_getElem? (i := 146) rfl) rfl
theorem W5_147 : Cond.code yX9_far cX9_far 4 (Option.some Jvm.ClassFile.FieldType.int) ∈ BIG := T5 (List.mem_of_getElem? (i := 147) rfl) rfl
theorem W5_148 : Cond.methodLink RL 19 yX9_feed ∈ BIG := T5 (List.mem_of_getElem? (i := 148) rfl) rfl
theorem W5_149 : Cond.instanceMethod yX9_feed ∈ BIG := T5 (List.mem_of_getElem? (i := 149) rfl) rfl
theorem W5_150 : Cond.selects RX9 yX9_feed yX9_feed ∈ BIG := T5 (List.mem_of_getElem? (i := 150) rfl) rfl
theorem W5_151 : Cond.code yX9_feed cX9_feed 6 (Option.some Jvm.ClassFile.FieldType.int) ∈ BIG := T5 (List.mem_of_getElem? (i := 151) rfl) rfl
theorem W5_152 : Cond.constantLong RX9 142 (255) ∈ BIG := T5 (List.mem_of_getElem? (i := 152) rfl) rfl
theorem W5_153 : Cond.methodLink RL 24 yX9_party ∈ BIG := T5 (List.mem_of_getElem? (i := 153) rfl) rfl
theorem W5_154 : Cond.instanceMethod yX9_party ∈ BIG := T5 (List.mem_of_getElem? (i := 154) rfl) rfl
theorem W5_155 : Cond.selects RX9 yX9_party yX9_party ∈ BIG := T5 (List.mem_of_getElem? (i := 155) rfl) rfl
theorem W5_156 : Cond.code yX9_party cX9_party 3 (Option.some Jvm.ClassFile.FieldType.int) ∈ BIG := T5 (List.mem_of_getElem? (i := 156) rfl) rfl
theorem W5_157 : Cond.methodLink RX9 159 yX9_statement ∈ BIG := T5 (List.mem_of_getElem? (i := 157) rfl) rfl
theorem W5_159 : Cond.instanceMethod yX9_statement ∈ BIG := T5 (List.mem_of_getElem? (i := 159) rfl) rfl
theorem W5_160 : Cond.code yX9_statement cX9_statement 3 (Option.some Jvm.ClassFile.FieldType.boolean) ∈ BIG := T5 (List.mem_of_getElem? (i := 160) rfl) rfl
theorem W5_161 : Cond.methodLink RX9 147 yX9_sign ∈ BIG := T5 (List.mem_of_getElem? (i := 161) rfl) rfl
theorem W5_163 : Cond.instanceMethod yX9_sign ∈ BIG := T5 (List.mem_of_getElem? (i := 163) rfl) rfl
theorem W5_164 : Cond.code yX9_sign cX9_sign 1 (Option.some Jvm.ClassFile.FieldType.int) ∈ BIG := T5 (List.mem_of_getElem? (i := 164) rfl) rfl
theorem W5_165 : Cond.methodLink RX9 153 yX9_number ∈ BIG := T5 (List.mem_of_getElem? (i := 165) rfl) rfl
theorem W5_167 : Cond.instanceMethod yX9_number ∈ BIG := T5 (List.mem_of_getElem? (i := 167) rfl) rfl
theorem W5_168 : Cond.code yX9_number cX9_number 4 (Option.some Jvm.ClassFile.FieldType.int) ∈ BIG := T5 (List.mem_of_getElem? (i := 168) rfl) rfl
theorem W5_169 : Cond.methodLink RX9 156 yX9_takes ∈ BIG := T5 (List.mem_of_getElem? (i := 169) rfl) rfl
theorem W5_171 : Cond.instanceMethod yX9_takes ∈ BIG := T5 (List.mem_of_getElem? (i := 171) rfl) rfl
theorem W5_172 : Cond.code yX9_takes cX9_takes 2 (Option.some Jvm.ClassFile.FieldType.boolean) ∈ BIG := T5 (List.mem_of_getElem? (i := 172) rfl) rfl
theorem W5_173 : Cond.methodLink RX9 163 yX9_passesAll ∈ BIG := T5 (List.mem_of_getElem? (i := 173) rfl) rfl
theorem W5_175 : Cond.instanceMethod yX9_passesAll ∈ BIG := T5 (List.mem_of_getElem? (i := 175) rfl) rfl
theorem W5_176 : Cond.code yX9_passesAll cX9_passesAll 3 (Option.none : Option Jvm.ClassFile.FieldType) ∈ BIG := T5 (List.mem_of_getElem? (i := 176) rfl) rfl
theorem W5_177 : Cond.methodLink RX9 177 yX9_passes ∈ BIG := T5 (List.mem_of_getElem? (i := 177) rfl) rfl
theorem W5_179 : Cond.instanceMethod yX9_passes ∈ BIG := T5 (List.mem_of_getElem? (i := 179) rfl) rfl
theorem W5_180 : Cond.code yX9_passes cX9_passes 3 (Option.none : Option Jvm.ClassFile.FieldType) ∈ BIG := T5 (List.mem_of_getElem? (i := 180) rfl) rfl
theorem W5_181 : Cond.methodLink RX9 181 yX9_passOne ∈ BIG := T5 (List.mem_of_getElem? (i := 181) rfl) rfl
theorem W5_183 : Cond.instanceMethod yX9_passOne ∈ BIG := T5 (List.mem_of_getElem? (i := 183) rfl) rfl
theorem W5_184 : Cond.code yX9_passOne cX9_passOne 3 (Option.some Jvm.ClassFile.FieldType.int) ∈ BIG := T5 (List.mem_of_getElem? (i := 184) rfl) rfl
theorem W5_185 : Cond.methodLink RX9 167 yX9_comes ∈ BIG := T5 (List.mem_of_getElem? (i := 185) rfl) rfl
theorem W5_187 : Cond.instanceMethod yX9_comes ∈ BIG := T5 (List.mem_of_getElem? (i := 187) rfl) rfl
theorem W5_188 : Cond.code yX9_comes cX9_comes 3 (Option.some Jvm.ClassFile.FieldType.boolean) ∈ BIG := T5 (List.mem_of_getElem? (i := 188) rfl) rfl
theorem W5_189 : Cond.methodLink RL 67 yX9_go ∈ BIG := T5 (List.mem_of_getElem? (i := 189) rfl) rfl
theorem W5_190 : Cond.instanceMethod yX9_go ∈ BIG := T5 (List.mem_of_getElem? (i := 190) rfl) rfl
theorem W5_191 : Cond.selects RX9 yX9_go yX9_go ∈ BIG := T5 (List.mem_of_getElem? (i := 191) rfl) rfl
theorem W5_192 : Cond.code yX9_go cX9_go 4 (Option.some Jvm.ClassFile.FieldType.int) ∈ BIG := T5 (List.mem_of_getElem? (i := 192) rfl) rfl
theorem W5_193 : Cond.methodLink RX9 233 yX9_isOver ∈ BIG := T5 (List.mem_of_getElem? (i := 193) rfl) rfl
theorem W5_195 : Cond.instanceMethod yX9_isOver ∈ BIG := T5 (List.mem_of_getElem? (i := 195) rfl) rfl
theorem W5_196 : Cond.code yX9_isOver cX9_isOver 1 (Option.some Jvm.ClassFile.FieldType.boolean) ∈ BIG := T5 (List.mem_of_getElem? (i := 196) rfl) rfl
theorem W5_197 : Cond.methodLink RX9 218 yX9_ins ∈ BIG := T5 (List.mem_of_getElem? (i := 197) rfl) rfl
theorem W5_199 : Cond.instanceMethod yX9_ins ∈ BIG := T5 (List.mem_of_getElem? (i := 199) rfl) rfl
theorem W5_200 : Cond.code yX9_ins cX9_ins 3 (Option.some Jvm.ClassFile.FieldType.int) ∈ BIG := T5 (List.mem_of_getElem? (i := 200) rfl) rfl
theorem W5_201 : Cond.methodLink RX9 236 yX9_goesOn ∈ BIG := T5 (List.mem_of_getElem? (i := 201) rfl) rfl
theorem W5_203 : Cond.instanceMethod yX9_goesOn ∈ BIG := T5 (List.mem_of_getElem? (i := 203) rfl) rfl
theorem W5_204 : Cond.code yX9_goesOn cX9_goesOn 1 (Option.some Jvm.ClassFile.FieldType.boolean) ∈ BIG := T5 (List.mem_of_getElem? (i := 204) rfl) rfl
theorem W5_205 : Cond.methodLink RX9 224 yX9_walks ∈ BIG := T5 (List.mem_of_getElem? (i := 205) rfl) rfl
theorem W5_207 : Cond.instanceMethod yX9_walks ∈ BIG := T5 (List.mem_of_getElem? (i := 207) rfl) rfl
theorem W5_208 : Cond.code yX9_walks cX9_walks 3 (Option.none : Option Jvm.ClassFile.FieldType) ∈ BIG := T5 (List.mem_of_getElem? (i := 208) rfl) rfl
theorem W5_209 : Cond.methodLink RX9 227 yX9_doesStop ∈ BIG := T5 (List.mem_of_getElem? (i := 209) rfl) rfl
theorem W5_211 : Cond.instanceMethod yX9_doesStop ∈ BIG := T5 (List.mem_of_getElem? (i := 211) rfl) rfl
theorem W5_212 : Cond.code yX9_doesStop cX9_doesStop 3 (Option.some Jvm.ClassFile.FieldType.boolean) ∈ BIG := T5 (List.mem_of_getElem? (i := 212) rfl) rfl
theorem W5_213 : Cond.constant RX9 221 (1103515245) ∈ BIG := T5 (List.mem_of_getElem? (i := 213) rfl) rfl
theorem W5_214 : Cond.constant RX9 222 (2147483647) ∈ BIG := T5 (List.mem_of_getElem? (i := 214) rfl) rfl
theorem W5_215 : Cond.constant RX9 223 (65536) ∈ BIG := T5 (List.mem_of_getElem? (i := 215) rfl) rfl
theorem W5_216 : Cond.methodLink RX9 230 yX9_stops ∈ BIG := T5 (List.mem_of_getElem? (i := 216) rfl) rfl
theorem W5_218 : Cond.instanceMethod yX9_stops ∈ BIG := T5 (List.mem_of_getElem? (i := 218) rfl) rfl
theorem W5_219 : Cond.code yX9_stops cX9_stops 2 (Option.some Jvm.ClassFile.FieldType.int) ∈ BIG := T5 (List.mem_of_getElem? (i := 219) rfl) rfl
theorem W5_220 : Cond.methodLink RX9 209 yX9_sit ∈ BIG := T5 (List.mem_of_getElem? (i := 220) rfl) rfl
theorem W5_222 : Cond.instanceMethod yX9_sit ∈ BIG := T5 (List.mem_of_getElem? (i := 222) rfl) rfl
theorem W5_223 : Cond.code yX9_sit cX9_sit 3 (Option.none : Option Jvm.ClassFile.FieldType) ∈ BIG := T5 (List.mem_of_getElem? (i := 223) rfl) rfl
theorem W5_224 : Cond.methodLink RX9 197 yX9_seatsOne ∈ BIG := T5 (List.mem_of_getElem? (i := 224) rfl) rfl
theorem W5_226 : Cond.instanceMethod yX9_seatsOne ∈ BIG := T5 (List.mem_of_getElem? (i := 226) rfl) rfl
theorem W5_227 : Cond.code yX9_seatsOne cX9_seatsOne 5 (Option.some Jvm.ClassFile.FieldType.boolean) ∈ BIG := T5 (List.mem_of_getElem? (i := 227) rfl) rfl
theorem W5_228 : Cond.methodLink RX9 190 yX9_isSeat ∈ BIG := T5 (List.mem_of_getElem? (i := 228) rfl) rfl
theorem W5_230 : Cond.instanceMethod yX9_isSeat ∈ BIG := T5 (List.mem_of_getElem? (i := 230) rfl) rfl
theorem W5_231 : Cond.code yX9_isSeat cX9_isSeat 3 (Option.some Jvm.ClassFile.FieldType.boolean) ∈ BIG := T5 (List.mem_of_getElem? (i := 231) rfl) rfl
theorem W5_232 : Cond.methodLink RX9 193 yX9_mayReach ∈ BIG := T5 (List.mem_of_getElem? (i := 232) rfl) rfl
theorem W5_234 : Cond.instanceMethod yX9_mayReach ∈ BIG := T5 (List.mem_of_getElem? (i := 234) rfl) rfl
theorem W5_235 : Cond.code yX9_mayReach cX9_mayReach 3 (Option.some Jvm.ClassFile.FieldType.boolean) ∈ BIG := T5 (List.mem_of_getElem? (i := 235) rfl) rfl
theorem W5_236 : Cond.methodLink RX9 200 yX9_judges ∈ BIG := T5 (List.mem_of_getElem? (i := 236) rfl) rfl
theorem W5_238 : Cond.instanceMethod yX9_judges ∈ BIG := T5 (List.mem_of_getElem? (i := 238) rfl) rfl
theorem W5_239 : Cond.code yX9_judges cX9_judges 3 (Option.none : Option Jvm.ClassFile.FieldType) ∈ BIG := T5 (List.mem_of_getElem? (i := 239) rfl) rfl
theorem W6_0 : Cond.methodLink RX9 212 yX9_goer ∈ BIG := T6 (List.mem_of_getElem? (i := 0) rfl) rfl
theorem W6_2 : Cond.instanceMethod yX9_goer ∈ BIG := T6 (List.mem_of_getElem? (i := 2) rfl) rfl
theorem W6_3 : Cond.code yX9_goer cX9_goer 3 (Option.some Jvm.ClassFile.FieldType.int) ∈ BIG := T6 (List.mem_of_getElem? (i := 3) rfl) rfl
theorem W6_4 : Cond.methodLink RX9 203 yX9_nearest ∈ BIG := T6 (List.mem_of_getElem? (i := 4) rfl) rfl
theorem W6_6 : Cond.instanceMethod yX9_nearest ∈ BIG := T6 (List.mem_of_getElem? (i := 6) rfl) rfl
theorem W6_7 : Cond.code yX9_nearest cX9_nearest 4 (Option.some Jvm.ClassFile.FieldType.int) ∈ BIG := T6 (List.mem_of_getElem? (i := 7) rfl) rfl
theorem W6_8 : Cond.methodLink RX9 215 yX9_leaver ∈ BIG := T6 (List.mem_of_getElem? (i := 8) rfl) rfl
theorem W6_10 : Cond.instanceMethod yX9_leaver ∈ BIG := T6 (List.mem_of_getElem? (i := 10) rfl) rfl
theorem W6_11 : Cond.code yX9_leaver cX9_leaver 3 (Option.some Jvm.ClassFile.FieldType.int) ∈ BIG := T6 (List.mem_of_getElem? (i := 11) rfl) rfl
theorem W6_12 : Cond.methodLink RX9 206 yX9_ways ∈ BIG := T6 (List.mem_of_getElem? (i := 12) rfl) rfl
theorem W6_14 : Cond.instanceMethod yX9_ways ∈ BIG := T6 (List.mem_of_getElem? (i := 14) rfl) rfl
theorem W6_15 : Cond.code yX9_ways cX9_ways 4 (Option.some Jvm.ClassFile.FieldType.int) ∈ BIG := T6 (List.mem_of_getElem? (i := 15) rfl) rfl
theorem W6_16 : Cond.methodLink RL 71 yX9_stop ∈ BIG := T6 (List.mem_of_getElem? (i := 16) rfl) rfl
theorem W6_17 : Cond.instanceMethod yX9_stop ∈ BIG := T6 (List.mem_of_getElem? (i := 17) rfl) rfl
theorem W6_18 : Cond.selects RX9 yX9_stop yX9_stop ∈ BIG := T6 (List.mem_of_getElem? (i := 18) rfl) rfl
theorem W6_19 : Cond.code yX9_stop cX9_stop 1 (Option.some Jvm.ClassFile.FieldType.int) ∈ BIG := T6 (List.mem_of_getElem? (i := 19) rfl) rfl
theorem W6_20 : Cond.methodLink RL 75 yX9_sits ∈ BIG := T6 (List.mem_of_getElem? (i := 20) rfl) rfl
theorem W6_21 : Cond.instanceMethod yX9_sits ∈ BIG := T6 (List.mem_of_getElem? (i := 21) rfl) rfl
theorem W6_22 : Cond.selects RX9 yX9_sits yX9_sits ∈ BIG := T6 (List.mem_of_getElem? (i := 22) rfl) rfl
theorem W6_23 : Cond.code yX9_sits cX9_sits 2 (Option.some Jvm.ClassFile.FieldType.int) ∈ BIG := T6 (List.mem_of_getElem? (i := 23) rfl) rfl
theorem W6_24 : Cond.methodLink RX9 239 yX9_isThere ∈ BIG := T6 (List.mem_of_getElem? (i := 24) rfl) rfl
theorem W6_26 : Cond.instanceMethod yX9_isThere ∈ BIG := T6 (List.mem_of_getElem? (i := 26) rfl) rfl
theorem W6_27 : Cond.code yX9_isThere cX9_isThere 2 (Option.some Jvm.ClassFile.FieldType.boolean) ∈ BIG := T6 (List.mem_of_getElem? (i := 27) rfl) rfl
theorem W6_28 : Cond.methodLink RL 79 yX9_would ∈ BIG := T6 (List.mem_of_getElem? (i := 28) rfl) rfl
theorem W6_29 : Cond.instanceMethod yX9_would ∈ BIG := T6 (List.mem_of_getElem? (i := 29) rfl) rfl
theorem W6_30 : Cond.selects RX9 yX9_would yX9_would ∈ BIG := T6 (List.mem_of_getElem? (i := 30) rfl) rfl
theorem W6_31 : Cond.code yX9_would cX9_would 2 (Option.some Jvm.ClassFile.FieldType.int) ∈ BIG := T6 (List.mem_of_getElem? (i := 31) rfl) rfl
theorem W6_32 : Cond.methodLink RL 83 yX9_odds ∈ BIG := T6 (List.mem_of_getElem? (i := 32) rfl) rfl
theorem W6_33 : Cond.instanceMethod yX9_odds ∈ BIG := T6 (List.mem_of_getElem? (i := 33) rfl) rfl
theorem W6_34 : Cond.selects RX9 yX9_odds yX9_odds ∈ BIG := T6 (List.mem_of_getElem? (i := 34) rfl) rfl
theorem W6_35 : Cond.code yX9_odds cX9_odds 4 (Option.some Jvm.ClassFile.FieldType.int) ∈ BIG := T6 (List.mem_of_getElem? (i := 35) rfl) rfl
theorem W6_36 : Cond.methodLink RX9 251 yX9_notOdds ∈ BIG := T6 (List.mem_of_getElem? (i := 36) rfl) rfl
theorem W6_38 : Cond.instanceMethod yX9_notOdds ∈ BIG := T6 (List.mem_of_getElem? (i := 38) rfl) rfl
theorem W6_39 : Cond.code yX9_notOdds cX9_notOdds 3 (Option.some Jvm.ClassFile.FieldType.int) ∈ BIG := T6 (List.mem_of_getElem? (i := 39) rfl) rfl
theorem W6_40 : Cond.methodLink RX9 254 yX9_oddsOf ∈ BIG := T6 (List.mem_of_getElem? (i := 40) rfl) rfl
theorem W6_42 : Cond.instanceMethod yX9_oddsOf ∈ BIG := T6 (List.mem_of_getElem? (i := 42) rfl) rfl
theorem W6_43 : Cond.code yX9_oddsOf cX9_oddsOf 3 (Option.some Jvm.ClassFile.FieldType.int) ∈ BIG := T6 (List.mem_of_getElem? (i := 43) rfl) rfl
theorem W6_44 : Cond.methodLink RX9 248 yX9_findOdds ∈ BIG := T6 (List.mem_of_getElem? (i := 44) rfl) rfl
theorem W6_46 : Cond.instanceMethod yX9_findOdds ∈ BIG := T6 (List.mem_of_getElem? (i := 46) rfl) rfl
theorem W6_47 : Cond.code yX9_findOdds cX9_findOdds 6 (Option.none : Option Jvm.ClassFile.FieldType) ∈ BIG := T6 (List.mem_of_getElem? (i := 47) rfl) rfl
theorem W6_48 : Cond.methodLink RL 87 yX9_fair ∈ BIG := T6 (List.mem_of_getElem? (i := 48) rfl) rfl
theorem W6_49 : Cond.instanceMethod yX9_fair ∈ BIG := T6 (List.mem_of_getElem? (i := 49) rfl) rfl
theorem W6_50 : Cond.selects RX9 yX9_fair yX9_fair ∈ BIG := T6 (List.mem_of_getElem? (i := 50) rfl) rfl
theorem W6_51 : Cond.code yX9_fair cX9_fair 6 (Option.some Jvm.ClassFile.FieldType.int) ∈ BIG := T6 (List.mem_of_getElem? (i := 51) rfl) rfl
theorem W6_52 : Cond.methodLink RL 91 yX9_bestSlow ∈ BIG := T6 (List.mem_of_getElem? (i := 52) rfl) rfl
theorem W6_53 : Cond.instanceMethod yX9_bestSlow ∈ BIG := T6 (List.mem_of_getElem? (i := 53) rfl) rfl
theorem W6_54 : Cond.selects RX9 yX9_bestSlow yX9_bestSlow ∈ BIG := T6 (List.mem_of_getElem? (i := 54) rfl) rfl
theorem W6_55 : Cond.code yX9_bestSlow cX9_bestSlow 8 (Option.some Jvm.ClassFile.FieldType.int) ∈ BIG := T6 (List.mem_of_getElem? (i := 55) rfl) rfl
theorem W6_56 : Cond.methodLink RX9 257 yX9_oddsBy ∈ BIG := T6 (List.mem_of_getElem? (i := 56) rfl) rfl
theorem W6_58 : Cond.instanceMethod yX9_oddsBy ∈ BIG := T6 (List.mem_of_getElem? (i := 58) rfl) rfl
theorem W6_59 : Cond.code yX9_oddsBy cX9_oddsBy 6 (Option.some Jvm.ClassFile.FieldType.int) ∈ BIG := T6 (List.mem_of_getElem? (i := 59) rfl) rfl
theorem W6_60 : Cond.methodLink RL 95 yX9_cheat ∈ BIG := T6 (List.mem_of_getElem? (i := 60) rfl) rfl
theorem W6_61 : Cond.instanceMethod yX9_cheat ∈ BIG := T6 (List.mem_of_getElem? (i := 61) rfl) rfl
theorem W6_62 : Cond.selects RX9 yX9_cheat yX9_cheat ∈ BIG := T6 (List.mem_of_getElem? (i := 62) rfl) rfl
theorem W6_63 : Cond.code yX9_cheat cX9_cheat 7 (Option.some Jvm.ClassFile.FieldType.int) ∈ BIG := T6 (List.mem_of_getElem? (i := 63) rfl) rfl
theorem W6_64 : Cond.methodLink RL 99 yX9_lasts ∈ BIG := T6 (List.mem_of_getElem? (i := 64) rfl) rfl
theorem W6_65 : Cond.instanceMethod yX9_lasts ∈ BIG := T6 (List.mem_of_getElem? (i := 65) rfl) rfl
theorem W6_66 : Cond.selects RX9 yX9_lasts yX9_lasts ∈ BIG := T6 (List.mem_of_getElem? (i := 66) rfl) rfl
theorem W6_67 : Cond.code yX9_lasts cX9_lasts 2 (Option.some Jvm.ClassFile.FieldType.int) ∈ BIG := T6 (List.mem_of_getElem? (i := 67) rfl) rfl
theorem W6_68 : Cond.methodLink RX9 272 yX9_partyBy ∈ BIG := T6 (List.mem_of_getElem? (i := 68) rfl) rfl
theorem W6_70 : Cond.instanceMethod yX9_partyBy ∈ BIG := T6 (List.mem_of_getElem? (i := 70) rfl) rfl
theorem W6_71 : Cond.code yX9_partyBy cX9_partyBy 4 (Option.none : Option Jvm.ClassFile.FieldType) ∈ BIG := T6 (List.mem_of_getElem? (i := 71) rfl) rfl
theorem W6_72 : Cond.methodLink RX9 269 yX9_plays ∈ BIG := T6 (List.mem_of_getElem? (i := 72) rfl) rfl
theorem W6_74 : Cond.instanceMethod yX9_plays ∈ BIG := T6 (List.mem_of_getElem? (i := 74) rfl) rfl
theorem W6_75 : Cond.code yX9_plays cX9_plays 2 (Option.none : Option Jvm.ClassFile.FieldType) ∈ BIG := T6 (List.mem_of_getElem? (i := 75) rfl) rfl
theorem W6_76 : Cond.methodLink RL 103 yX9_wins ∈ BIG := T6 (List.mem_of_getElem? (i := 76) rfl) rfl
theorem W6_77 : Cond.instanceMethod yX9_wins ∈ BIG := T6 (List.mem_of_getElem? (i := 77) rfl) rfl
theorem W6_78 : Cond.selects RX9 yX9_wins yX9_wins ∈ BIG := T6 (List.mem_of_getElem? (i := 78) rfl) rfl
theorem W6_79 : Cond.code yX9_wins cX9_wins 7 (Option.some Jvm.ClassFile.FieldType.int) ∈ BIG := T6 (List.mem_of_getElem? (i := 79) rfl) rfl
theorem W6_80 : Cond.methodLink RL 107 yX9_fairest ∈ BIG := T6 (List.mem_of_getElem? (i := 80) rfl) rfl
theorem W6_81 : Cond.instanceMethod yX9_fairest ∈ BIG := T6 (List.mem_of_getElem? (i := 81) rfl) rfl
theorem W6_82 : Cond.selects RX9 yX9_fairest yX9_fairest ∈ BIG := T6 (List.mem_of_getElem? (i := 82) rfl) rfl
theorem W6_83 : Cond.code yX9_fairest cX9_fairest 12 (Option.some Jvm.ClassFile.FieldType.int) ∈ BIG := T6 (List.mem_of_getElem? (i := 83) rfl) rfl
theorem W6_84 : Cond.methodLink RL 111 yX9_shortest ∈ BIG := T6 (List.mem_of_getElem? (i := 84) rfl) rfl
theorem W6_85 : Cond.instanceMethod yX9_shortest ∈ BIG := T6 (List.mem_of_getElem? (i := 85) rfl) rfl
theorem W6_86 : Cond.selects RX9 yX9_shortest yX9_shortest ∈ BIG := T6 (List.mem_of_getElem? (i := 86) rfl) rfl
theorem W6_87 : Cond.code yX9_shortest cX9_shortest 4 (Option.some Jvm.ClassFile.FieldType.int) ∈ BIG := T6 (List.mem_of_getElem? (i := 87) rfl) rfl
theorem W6_88 : Cond.methodLink RL 115 yX9_row ∈ BIG := T6 (List.mem_of_getElem? (i := 88) rfl) rfl
theorem W6_89 : Cond.instanceMethod yX9_row ∈ BIG := T6 (List.mem_of_getElem? (i := 89) rfl) rfl
theorem W6_90 : Cond.selects RX9 yX9_row yX9_row ∈ BIG := T6 (List.mem_of_getElem? (i := 90) rfl) rfl
theorem W6_91 : Cond.code yX9_row cX9_row 3 (Option.some Jvm.ClassFile.FieldType.int) ∈ BIG := T6 (List.mem_of_getElem? (i := 91) rfl) rfl
theorem W6_92 : Cond.methodLink RL 119 yX9_could ∈ BIG := T6 (List.mem_of_getElem? (i := 92) rfl) rfl
theorem W6_93 : Cond.instanceMethod yX9_could ∈ BIG := T6 (List.mem_of_getElem? (i := 93) rfl) rfl
theorem W6_94 : Cond.selects RX9 yX9_could yX9_could ∈ BIG := T6 (List.mem_of_getElem? (i := 94) rfl) rfl
theorem W6_95 : Cond.code yX9_could cX9_could 3 (Option.some Jvm.ClassFile.FieldType.int) ∈ BIG := T6 (List.mem_of_getElem? (i := 95) rfl) rfl
theorem W6_96 : Cond.methodLink RL 123 yX9_next ∈ BIG := T6 (List.mem_of_getElem? (i := 96) rfl) rfl
theorem W6_97 : Cond.instanceMethod yX9_next ∈ BIG := T6 (List.mem_of_getElem? (i := 97) rfl) rfl
theorem W6_98 : Cond.selects RX9 yX9_next yX9_next ∈ BIG := T6 (List.mem_of_getElem? (i := 98) rfl) rfl
theorem W6_99 : Cond.code yX9_next cX9_next 5 (Option.some Jvm.ClassFile.FieldType.int) ∈ BIG := T6 (List.mem_of_getElem? (i := 99) rfl) rfl
theorem W6_100 : Cond.methodLink RL 128 yX9_team ∈ BIG := T6 (List.mem_of_getElem? (i := 100) rfl) rfl
theorem W6_101 : Cond.instanceMethod yX9_team ∈ BIG := T6 (List.mem_of_getElem? (i := 101) rfl) rfl
theorem W6_102 : Cond.selects RX9 yX9_team yX9_team ∈ BIG := T6 (List.mem_of_getElem? (i := 102) rfl) rfl
theorem W6_103 : Cond.code yX9_team cX9_team 6 (Option.some Jvm.ClassFile.FieldType.int) ∈ BIG := T6 (List.mem_of_getElem? (i := 103) rfl) rfl
theorem W6_104 : Cond.methodLink RL 132 yX9_film ∈ BIG := T6 (List.mem_of_getElem? (i := 104) rfl) rfl
theorem W6_105 : Cond.instanceMethod yX9_film ∈ BIG := T6 (List.mem_of_getElem? (i := 105) rfl) rfl
theorem W6_106 : Cond.selects RX9 yX9_film yX9_film ∈ BIG := T6 (List.mem_of_getElem? (i := 106) rfl) rfl
theorem W6_107 : Cond.code yX9_film cX9_film 2 (Option.some Jvm.ClassFile.FieldType.int) ∈ BIG := T6 (List.mem_of_getElem? (i := 107) rfl) rfl
theorem W6_108 : Cond.methodLink RL 136 yX9_judge ∈ BIG := T6 (List.mem_of_getElem? (i := 108) rfl) rfl
theorem W6_109 : Cond.instanceMethod yX9_judge ∈ BIG := T6 (List.mem_of_getElem? (i := 109) rfl) rfl
theorem W6_110 : Cond.selects RX9 yX9_judge yX9_judge ∈ BIG := T6 (List.mem_of_getElem? (i := 110) rfl) rfl
theorem W6_111 : Cond.code yX9_judge cX9_judge 5 (Option.some Jvm.ClassFile.FieldType.int) ∈ BIG := T6 (List.mem_of_getElem? (i := 111) rfl) rfl
theorem W6_112 : Cond.methodLink RL 140 yX9_image ∈ BIG := T6 (List.mem_of_getElem? (i := 112) rfl) rfl
theorem W6_113 : Cond.instanceMethod yX9_image ∈ BIG := T6 (List.mem_of_getElem? (i := 113) rfl) rfl
theorem W6_114 : Cond.selects RX9 yX9_image yX9_image ∈ BIG := T6 (List.mem_of_getElem? (i := 114) rfl) rfl
theorem W6_115 : Cond.code yX9_image cX9_image 1 (Option.some Jvm.ClassFile.FieldType.int) ∈ BIG := T6 (List.mem_of_getElem? (i := 115) rfl) rfl
theorem W6_116 : Cond.methodLink RL 144 yX9_restore ∈ BIG := T6 (List.mem_of_getElem? (i := 116) rfl) rfl
theorem W6_117 : Cond.instanceMethod yX9_restore ∈ BIG := T6 (List.mem_of_getElem? (i := 117) rfl) rfl
theorem W6_118 : Cond.selects RX9 yX9_restore yX9_restore ∈ BIG := T6 (List.mem_of_getElem? (i := 118) rfl) rfl
theorem W6_119 : Cond.code yX9_restore cX9_restore 1 (Option.some Jvm.ClassFile.FieldType.int) ∈ BIG := T6 (List.mem_of_getElem? (i := 119) rfl) rfl
theorem W6_120 : Cond.methodLink RL 148 yX9_count ∈ BIG := T6 (List.mem_of_getElem? (i := 120) rfl) rfl
theorem W6_121 : Cond.instanceMethod yX9_count ∈ BIG := T6 (List.mem_of_getElem? (i := 121) rfl) rfl
theorem W6_122 : Cond.selects RX9 yX9_count yX9_count ∈ BIG := T6 (List.mem_of_getElem? (i := 122) rfl) rfl
theorem W6_123 : Cond.code yX9_count cX9_count 2 (Option.some Jvm.ClassFile.FieldType.int) ∈ BIG := T6 (List.mem_of_getElem? (i := 123) rfl) rfl
theorem W6_124 : Cond.constantLong RL 13 (4294967295) ∈ BIG := T6 (List.mem_of_getElem? (i := 124) rfl) rfl
theorem W6_125 : Cond.fieldLink RJ0 9 "java/lang/String" "value" "[B" ∈ BIG := T6 (List.mem_of_getElem? (i := 125) rfl) rfl
theorem W6_126 : Cond.fieldLink RJ0 15 "java/lang/String" "coder" "B" ∈ BIG := T6 (List.mem_of_getElem? (i := 126) rfl) rfl
theorem WP_0 : Cond.selects RX8 yX8_refuse yX8_refuse ∈ BIG := TP (List.mem_of_getElem? (i := 0) rfl) rfl
theorem WP_1 : Cond.selects RX6 yX6_begin yX6_begin ∈ BIG := TP (List.mem_of_getElem? (i := 1) rfl) rfl
theorem WP_2 : Cond.selects RX6 yX6_readStatement yX6_readStatement ∈ BIG := TP (List.mem_of_getElem? (i := 2) rfl) rfl
theorem WP_3 : Cond.selects RX6 yX6_signAhead yX6_signAhead ∈ BIG := TP (List.mem_of_getElem? (i := 3) rfl) rfl
theorem WP_4 : Cond.selects RX6 yX6_readPart yX6_readPart ∈ BIG := TP (List.mem_of_getElem? (i := 4) rfl) rfl
theorem WP_5 : Cond.selects RX6 yX6_readDigits yX6_readDigits ∈ BIG := TP (List.mem_of_getElem? (i := 5) rfl) rfl
theorem WP_6 : Cond.selects RX6 yX6_comesTrue yX6_comesTrue ∈ BIG := TP (List.mem_of_getElem? (i := 6) rfl) rfl
theorem WP_7 : Cond.selects RX6 yX6_resize yX6_resize ∈ BIG := TP (List.mem_of_getElem? (i := 7) rfl) rfl
theorem WP_8 : Cond.selects RX6 yX6_seatMore yX6_seatMore ∈ BIG := TP (List.mem_of_getElem? (i := 8) rfl) rfl
theorem WP_9 : Cond.selects RX6 yX6_walkerMore yX6_walkerMore ∈ BIG := TP (List.mem_of_getElem? (i := 9) rfl) rfl
theorem WP_10 : Cond.selects RX2 yX2_mark yX2_mark ∈ BIG := TP (List.mem_of_getElem? (i := 10) rfl) rfl
theorem WP_11 : Cond.selects RX6 yX6_newPlayer yX6_newPlayer ∈ BIG := TP (List.mem_of_getElem? (i := 11) rfl) rfl
theorem WP_12 : Cond.selects RX6 yX6_newForm yX6_newForm ∈ BIG := TP (List.mem_of_getElem? (i := 12) rfl) rfl
theorem WP_13 : Cond.selects RX2 yX2_walk yX2_walk ∈ BIG := TP (List.mem_of_getElem? (i := 13) rfl) rfl
theorem WP_14 : Cond.selects RX2 yX2_isLikedAtChair yX2_isLikedAtChair ∈ BIG := TP (List.mem_of_getElem? (i := 14) rfl) rfl
theorem WP_15 : Cond.selects RX5 yX5_measure yX5_measure ∈ BIG := TP (List.mem_of_getElem? (i := 15) rfl) rfl
theorem WP_16 : Cond.selects RX5 yX5_seatLeastHaste yX5_seatLeastHaste ∈ BIG := TP (List.mem_of_getElem? (i := 16) rfl) rfl
theorem WP_17 : Cond.selects RX5 yX5_giveWay yX5_giveWay ∈ BIG := TP (List.mem_of_getElem? (i := 17) rfl) rfl
theorem WP_18 : Cond.selects RX4 yX4_mostCrowdedChair yX4_mostCrowdedChair ∈ BIG := TP (List.mem_of_getElem? (i := 18) rfl) rfl
theorem WP_19 : Cond.selects RX4 yX4_wayOn yX4_wayOn ∈ BIG := TP (List.mem_of_getElem? (i := 19) rfl) rfl
theorem WP_20 : Cond.selects RX0 yX0_seatBehindTenth yX0_seatBehindTenth ∈ BIG := TP (List.mem_of_getElem? (i := 20) rfl) rfl
theorem WP_21 : Cond.selects RX0 yX0_countSeatedTimes yX0_countSeatedTimes ∈ BIG := TP (List.mem_of_getElem? (i := 21) rfl) rfl
theorem WP_22 : Cond.selects RX0 yX0_playOut yX0_playOut ∈ BIG := TP (List.mem_of_getElem? (i := 22) rfl) rfl
theorem WP_23 : Cond.selects RX8 yX8_whyNotSeeds yX8_whyNotSeeds ∈ BIG := TP (List.mem_of_getElem? (i := 23) rfl) rfl
theorem WP_24 : Cond.selects RX8 yX8_couldAllBeBy yX8_couldAllBeBy ∈ BIG := TP (List.mem_of_getElem? (i := 24) rfl) rfl
theorem WP_25 : Cond.selects RX9 yX9_isPlace yX9_isPlace ∈ BIG := TP (List.mem_of_getElem? (i := 25) rfl) rfl
theorem WP_26 : Cond.selects RX9 yX9_no yX9_no ∈ BIG := TP (List.mem_of_getElem? (i := 26) rfl) rfl
theorem WP_27 : Cond.selects RX9 yX9_chairs yX9_chairs ∈ BIG := TP (List.mem_of_getElem? (i := 27) rfl) rfl
theorem WP_28 : Cond.selects RX9 yX9_comesChair yX9_comesChair ∈ BIG := TP (List.mem_of_getElem? (i := 28) rfl) rfl
theorem WP_29 : Cond.selects RX9 yX9_isTaken yX9_isTaken ∈ BIG := TP (List.mem_of_getElem? (i := 29) rfl) rfl
theorem WP_30 : Cond.selects RX9 yX9_comesWalker yX9_comesWalker ∈ BIG := TP (List.mem_of_getElem? (i := 30) rfl) rfl
theorem WP_31 : Cond.selects RX9 yX9_isWalker yX9_isWalker ∈ BIG := TP (List.mem_of_getElem? (i := 31) rfl) rfl
theorem WP_32 : Cond.selects RX9 yX9_hasteOf yX9_hasteOf ∈ BIG := TP (List.mem_of_getElem? (i := 32) rfl) rfl
theorem WP_33 : Cond.selects RX9 yX9_far yX9_far ∈ BIG := TP (List.mem_of_getElem? (i := 33) rfl) rfl
theorem WP_34 : Cond.selects RX9 yX9_statement yX9_statement ∈ BIG := TP (List.mem_of_getElem? (i := 34) rfl) rfl
theorem WP_35 : Cond.selects RX9 yX9_sign yX9_sign ∈ BIG := TP (List.mem_of_getElem? (i := 35) rfl) rfl
theorem WP_36 : Cond.selects RX9 yX9_number yX9_number ∈ BIG := TP (List.mem_of_getElem? (i := 36) rfl) rfl
theorem WP_37 : Cond.selects RX9 yX9_takes yX9_takes ∈ BIG := TP (List.mem_of_getElem? (i := 37) rfl) rfl
theorem WP_38 : Cond.selects RX9 yX9_passesAll yX9_passesAll ∈ BIG := TP (List.mem_of_getElem? (i := 38) rfl) rfl
theorem WP_39 : Cond.selects RX9 yX9_passes yX9_passes ∈ BIG := TP (List.mem_of_getElem? (i := 39) rfl) rfl
theorem WP_40 : Cond.selects RX9 yX9_passOne yX9_passOne ∈ BIG := TP (List.mem_of_getElem? (i := 40) rfl) rfl
theorem WP_41 : Cond.selects RX9 yX9_comes yX9_comes ∈ BIG := TP (List.mem_of_getElem? (i := 41) rfl) rfl
theorem WP_42 : Cond.selects RX9 yX9_isOver yX9_isOver ∈ BIG := TP (List.mem_of_getElem? (i := 42) rfl) rfl
theorem WP_43 : Cond.selects RX9 yX9_ins yX9_ins ∈ BIG := TP (List.mem_of_getElem? (i := 43) rfl) rfl
theorem WP_44 : Cond.selects RX9 yX9_goesOn yX9_goesOn ∈ BIG := TP (List.mem_of_getElem? (i := 44) rfl) rfl
theorem WP_45 : Cond.selects RX9 yX9_walks yX9_walks ∈ BIG := TP (List.mem_of_getElem? (i := 45) rfl) rfl
theorem WP_46 : Cond.selects RX9 yX9_doesStop yX9_doesStop ∈ BIG := TP (List.mem_of_getElem? (i := 46) rfl) rfl
theorem WP_47 : Cond.selects RX9 yX9_stops yX9_stops ∈ BIG := TP (List.mem_of_getElem? (i := 47) rfl) rfl
theorem WP_48 : Cond.selects RX9 yX9_sit yX9_sit ∈ BIG := TP (List.mem_of_getElem? (i := 48) rfl) rfl
theorem WP_49 : Cond.selects RX9 yX9_seatsOne yX9_seatsOne ∈ BIG := TP (List.mem_of_getElem? (i := 49) rfl) rfl
theorem WP_50 : Cond.selects RX9 yX9_isSeat yX9_isSeat ∈ BIG := TP (List.mem_of_getElem? (i := 50) rfl) rfl
theorem WP_51 : Cond.selects RX9 yX9_mayReach yX9_mayReach ∈ BIG := TP (List.mem_of_getElem? (i := 51) rfl) rfl
theorem WP_52 : Cond.selects RX9 yX9_judges yX9_judges ∈ BIG := TP (List.mem_of_getElem? (i := 52) rfl) rfl
theorem WP_53 : Cond.selects RX9 yX9_goer yX9_goer ∈ BIG := TP (List.mem_of_getElem? (i := 53) rfl) rfl
theorem WP_54 : Cond.selects RX9 yX9_nearest yX9_nearest ∈ BIG := TP (List.mem_of_getElem? (i := 54) rfl) rfl
theorem WP_55 : Cond.selects RX9 yX9_leaver yX9_leaver ∈ BIG := TP (List.mem_of_getElem? (i := 55) rfl) rfl
theorem WP_56 : Cond.selects RX9 yX9_ways yX9_ways ∈ BIG := TP (List.mem_of_getElem? (i := 56) rfl) rfl
theorem WP_57 : Cond.selects RX9 yX9_isThere yX9_isThere ∈ BIG := TP (List.mem_of_getElem? (i := 57) rfl) rfl
theorem WP_58 : Cond.selects RX9 yX9_notOdds yX9_notOdds ∈ BIG := TP (List.mem_of_getElem? (i := 58) rfl) rfl
theorem WP_59 : Cond.selects RX9 yX9_oddsOf yX9_oddsOf ∈ BIG := TP (List.mem_of_getElem? (i := 59) rfl) rfl
theorem WP_60 : Cond.selects RX9 yX9_findOdds yX9_findOdds ∈ BIG := TP (List.mem_of_getElem? (i := 60) rfl) rfl
theorem WP_61 : Cond.selects RX9 yX9_oddsBy yX9_oddsBy ∈ BIG := TP (List.mem_of_getElem? (i := 61) rfl) rfl
theorem WP_62 : Cond.selects RX9 yX9_partyBy yX9_partyBy ∈ BIG := TP (List.mem_of_getElem? (i := 62) rfl) rfl
theorem WP_63 : Cond.selects RX9 yX9_plays yX9_plays ∈ BIG := TP (List.mem_of_getElem? (i := 63) rfl) rfl
theorem in0 : ∀ w ∈ u_ws RX0 TX0 5, w ∈ BIG := fun w h => by
  obtain ⟨k, hk, rfl⟩ := List.mem_map.mp h
  have hk := List.mem_range.mp hk
  match k, hk with
  | 0, _ => exact W1_221
  | 1, _ => exact W1_223
  | 2, _ => exact W1_225
  | 3, _ => exact W1_227
  | 4, _ => exact W1_229
  | n + 5, h => exact absurd h (by omega)
theorem in1 : ∀ w ∈ u_ws RX1 TX1 2, w ∈ BIG := fun w h => by
  obtain ⟨k, hk, rfl⟩ := List.mem_map.mp h
  have hk := List.mem_range.mp hk
  match k, hk with
  | 0, _ => exact W2_4
  | 1, _ => exact W2_6
  | n + 2, h => exact absurd h (by omega)
theorem in2 : ∀ w ∈ u_ws RX2 TX2 10, w ∈ BIG := fun w h => by
  obtain ⟨k, hk, rfl⟩ := List.mem_map.mp h
  have hk := List.mem_range.mp hk
  match k, hk with
  | 0, _ => exact W1_194
  | 1, _ => exact W1_196
  | 2, _ => exact W1_198
  | 3, _ => exact W1_200
  | 4, _ => exact W1_202
  | 5, _ => exact W1_204
  | 6, _ => exact W1_206
  | 7, _ => exact W1_208
  | 8, _ => exact W1_210
  | 9, _ => exact W1_212
  | n + 10, h => exact absurd h (by omega)
theorem in3 : ∀ w ∈ u_ws RX3 TX3 3, w ∈ BIG := fun w h => by
  obtain ⟨k, hk, rfl⟩ := List.mem_map.mp h
  have hk := List.mem_range.mp hk
  match k, hk with
  | 0, _ => exact W1_84
  | 1, _ => exact W1_86
  | 2, _ => exact W1_88
  | n + 3, h => exact absurd h (by omega)
theorem in4 : ∀ w ∈ u_ws RX4 TX4 4, w ∈ BIG := fun w h => by
  obtain ⟨k, hk, rfl⟩ := List.mem_map.mp h
  have hk := List.mem_range.mp hk
  match k, hk with
  | 0, _ => exact W1_55
  | 1, _ => exact W1_57
  | 2, _ => exact W1_59
  | 3, _ => exact W1_61
  | n + 4, h => exact absurd h (by omega)
theorem in5 : ∀ w ∈ u_ws RX5 TX5 5, w ∈ BIG := fun w h => by
  obtain ⟨k, hk, rfl⟩ := List.mem_map.mp h
  have hk := List.mem_range.mp hk
  match k, hk with
  | 0, _ => exact W1_102
  | 1, _ => exact W1_104
  | 2, _ => exact W1_106
  | 3, _ => exact W1_108
  | 4, _ => exact W1_110
  | n + 5, h => exact absurd h (by omega)
theorem in6 : ∀ w ∈ u_ws RX6 TX6 6, w ∈ BIG := fun w h => by
  obtain ⟨k, hk, rfl⟩ := List.mem_map.mp h
  have hk := List.mem_range.mp hk
  match k, hk with
  | 0, _ => exact W2_23
  | 1, _ => exact W2_25
  | 2, _ => exact W2_27
  | 3, _ => exact W2_29
  | 4, _ => exact W2_31
  | 5, _ => exact W2_33
  | n + 6, h => exact absurd h (by omega)
theorem in7 : ∀ w ∈ u_ws RX7 TX7 9, w ∈ BIG := fun w h => by
  obtain ⟨k, hk, rfl⟩ := List.mem_map.mp h
  have hk := List.mem_range.mp hk
  match k, hk with
  | 0, _ => exact W1_143
  | 1, _ => exact W1_145
  | 2, _ => exact W1_147
  | 3, _ => exact W1_149
  | 4, _ => exact W1_151
  | 5, _ => exact W1_153
  | 6, _ => exact W1_155
  | 7, _ => exact W1_157
  | 8, _ => exact W1_159
  | n + 9, h => exact absurd h (by omega)
theorem in8 : ∀ w ∈ u_ws RX8 TX8 8, w ∈ BIG := fun w h => by
  obtain ⟨k, hk, rfl⟩ := List.mem_map.mp h
  have hk := List.mem_range.mp hk
  match k, hk with
  | 0, _ => exact W2_45
  | 1, _ => exact W2_47
  | 2, _ => exact W2_49
  | 3, _ => exact W2_51
  | 4, _ => exact W2_53
  | 5, _ => exact W2_55
  | 6, _ => exact W2_57
  | 7, _ => exact W2_59
  | n + 8, h => exact absurd h (by omega)
theorem in9 : ∀ w ∈ u_ws RX9 TX9 44, w ∈ BIG := fun w h => by
  obtain ⟨k, hk, rfl⟩ := List.mem_map.mp h
  have hk := List.mem_range.mp hk
  match k, hk with
  | 0, _ => exact W4_221
  | 1, _ => exact W4_223
  | 2, _ => exact W4_225
  | 3, _ => exact W4_227
  | 4, _ => exact W4_229
  | 5, _ => exact W4_231
  | 6, _ => exact W4_233
  | 7, _ => exact W4_235
  | 8, _ => exact W4_237
  | 9, _ => exact W4_239
  | 10, _ => exact W5_1
  | 11, _ => exact W5_3
  | 12, _ => exact W5_5
  | 13, _ => exact W5_7
  | 14, _ => exact W5_9
  | 15, _ => exact W5_11
  | 16, _ => exact W5_13
  | 17, _ => exact W5_15
  | 18, _ => exact W5_17
  | 19, _ => exact W5_19
  | 20, _ => exact W5_21
  | 21, _ => exact W5_23
  | 22, _ => exact W5_25
  | 23, _ => exact W5_27
  | 24, _ => exact W5_29
  | 25, _ => exact W5_31
  | 26, _ => exact W5_33
  | 27, _ => exact W5_35
  | 28, _ => exact W5_37
  | 29, _ => exact W5_39
  | 30, _ => exact W5_41
  | 31, _ => exact W5_43
  | 32, _ => exact W5_45
  | 33, _ => exact W5_47
  | 34, _ => exact W5_49
  | 35, _ => exact W5_51
  | 36, _ => exact W5_53
  | 37, _ => exact W5_55
  | 38, _ => exact W5_57
  | 39, _ => exact W5_59
  | 40, _ => exact W5_61
  | 41, _ => exact W5_63
  | 42, _ => exact W5_65
  | 43, _ => exact W5_67
  | n + 44, h => exact absurd h (by omega)
