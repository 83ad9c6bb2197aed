theorem kcb_m17 : (Int8.ofInt (-17)).toInt32 = (-17) := by decide
theorem kcb_m9 : (Int8.ofInt (-9)).toInt32 = (-9) := by decide
theorem kcb_m6 : (Int8.ofInt (-6)).toInt32 = (-6) := by decide
theorem kcb_m5 : (Int8.ofInt (-5)).toInt32 = (-5) := by decide
theorem kcb_m4 : (Int8.ofInt (-4)).toInt32 = (-4) := by decide
theorem kcb_m3 : (Int8.ofInt (-3)).toInt32 = (-3) := by decide
theorem kcb_m2 : (Int8.ofInt (-2)).toInt32 = (-2) := by decide
theorem kcb_6 : (Int8.ofInt 6).toInt32 = 6 := by decide
theorem kcb_7 : (Int8.ofInt 7).toInt32 = 7 := by decide
theorem kcb_8 : (Int8.ofInt 8).toInt32 = 8 := by decide
theorem kcb_9 : (Int8.ofInt 9).toInt32 = 9 := by decide
theorem kcb_10 : (Int8.ofInt 10).toInt32 = 10 := by decide
theorem kcb_11 : (Int8.ofInt 11).toInt32 = 11 := by decide
theorem kcb_12 : (Int8.ofInt 12).toInt32 = 12 := by decide
theorem kcb_16 : (Int8.ofInt 16).toInt32 = 16 := by decide
theorem kcb_20 : (Int8.ofInt 20).toInt32 = 20 := by decide
theorem kcb_24 : (Int8.ofInt 24).toInt32 = 24 := by decide
theorem kcb_31 : (Int8.ofInt 31).toInt32 = 31 := by decide
theorem kcb_32 : (Int8.ofInt 32).toInt32 = 32 := by decide
theorem kcb_35 : (Int8.ofInt 35).toInt32 = 35 := by decide
theorem kcb_44 : (Int8.ofInt 44).toInt32 = 44 := by decide
theorem kcb_48 : (Int8.ofInt 48).toInt32 = 48 := by decide
theorem kcb_57 : (Int8.ofInt 57).toInt32 = 57 := by decide
theorem kcb_59 : (Int8.ofInt 59).toInt32 = 59 := by decide
theorem kcb_60 : (Int8.ofInt 60).toInt32 = 60 := by decide
theorem kcb_63 : (Int8.ofInt 63).toInt32 = 63 := by decide
theorem kcb_64 : (Int8.ofInt 64).toInt32 = 64 := by decide
theorem kcb_90 : (Int8.ofInt 90).toInt32 = 90 := by decide
theorem kcb_91 : (Int8.ofInt 91).toInt32 = 91 := by decide
theorem kcb_99 : (Int8.ofInt 99).toInt32 = 99 := by decide
theorem kcb_100 : (Int8.ofInt 100).toInt32 = 100 := by decide
theorem kcb_102 : (Int8.ofInt 102).toInt32 = 102 := by decide
theorem kcb_110 : (Int8.ofInt 110).toInt32 = 110 := by decide
theorem kcb_112 : (Int8.ofInt 112).toInt32 = 112 := by decide
theorem kcb_119 : (Int8.ofInt 119).toInt32 = 119 := by decide
theorem kci_m1 : Int32.ofInt (-1) = (-1) := by decide
theorem kci_0 : Int32.ofInt 0 = 0 := by decide
theorem kci_1 : Int32.ofInt 1 = 1 := by decide
theorem kci_2 : Int32.ofInt 2 = 2 := by decide
theorem kci_3 : Int32.ofInt 3 = 3 := by decide
theorem kci_4 : Int32.ofInt 4 = 4 := by decide
theorem kci_5 : Int32.ofInt 5 = 5 := by decide
theorem kci_10 : Int32.ofInt 10 = 10 := by decide
theorem kcs_m2000 : (Int16.ofInt (-2000)).toInt32 = (-2000) := by decide
theorem kcs_m1000 : (Int16.ofInt (-1000)).toInt32 = (-1000) := by decide
theorem kcs_132 : (Int16.ofInt 132).toInt32 = 132 := by decide
theorem kcs_200 : (Int16.ofInt 200).toInt32 = 200 := by decide
theorem kcs_255 : (Int16.ofInt 255).toInt32 = 255 := by decide
theorem kcs_300 : (Int16.ofInt 300).toInt32 = 300 := by decide
theorem kcs_400 : (Int16.ofInt 400).toInt32 = 400 := by decide
theorem kcs_3900 : (Int16.ofInt 3900).toInt32 = 3900 := by decide
theorem kcs_12345 : (Int16.ofInt 12345).toInt32 = 12345 := by decide
theorem cl_0 : vwCl[0]? = some (RX0, TX0, 5) := rfl
theorem fk0_0 : FK RX0 TX0 5 0 0 "ChairTooFew$Mind" true := ⟨in0, rfl, rfl, by decide, by decide, by decide, rfl⟩
theorem tl_0_0 {o : Nat} (h : typ o = 0) : typ (link o 0) = 2 := t_lk (by decide +kernel) (by decide) h
theorem fk0_1 : FK RX0 TX0 5 0 1 "ChairTooFew$Mind" true := ⟨in0, rfl, rfl, by decide, by decide, by decide, rfl⟩
theorem tl_0_1 {o : Nat} (h : typ o = 0) : typ (link o 1) = 2 := t_lk (by decide +kernel) (by decide) h
theorem fk0_2 : FK RX0 TX0 5 0 2 "ChairTooFew$Mind" true := ⟨in0, rfl, rfl, by decide, by decide, by decide, rfl⟩
theorem tl_0_2 {o : Nat} (h : typ o = 0) : typ (link o 2) = 11 := t_lk (by decide +kernel) (by decide) h
theorem al_0_2 {o : Nat} (h : typ o = 0) : alen (link o 2) = 12 := t_ln (by decide +kernel) (by decide) h
theorem fk0_3 : FK RX0 TX0 5 0 3 "ChairTooFew$Mind" false := ⟨in0, rfl, rfl, by decide, by decide, by decide, rfl⟩
theorem fp0_3 : FP TX0 5 3 tyX0 .int := ⟨tyX0_ok, nmX0, rfl, rfl⟩
theorem fk0_4 : FK RX0 TX0 5 0 4 "ChairTooFew$Mind" false := ⟨in0, rfl, rfl, by decide, by decide, by decide, rfl⟩
theorem fp0_4 : FP TX0 5 4 tyX0 .int := ⟨tyX0_ok, nmX0, rfl, rfl⟩
theorem cl_1 : vwCl[1]? = some (RX1, TX1, 2) := rfl
theorem fk1_0 : FK RX1 TX1 2 1 0 "ChairTooFew$Numbers" true := ⟨in1, rfl, rfl, by decide, by decide, by decide, rfl⟩
theorem tl_1_0 {o : Nat} (h : typ o = 1) : typ (link o 0) = 11 := t_lk (by decide +kernel) (by decide) h
theorem fk1_1 : FK RX1 TX1 2 1 1 "ChairTooFew$Numbers" false := ⟨in1, rfl, rfl, by decide, by decide, by decide, rfl⟩
theorem fp1_1 : FP TX1 2 1 tyX1 .int := ⟨tyX1_ok, nmX1, rfl, rfl⟩
theorem cl_2 : vwCl[2]? = some (RX2, TX2, 10) := rfl
theorem fk2_0 : FK RX2 TX2 10 2 0 "ChairTooFew$Party" true := ⟨in2, rfl, rfl, by decide, by decide, by decide, rfl⟩
theorem tl_2_0 {o : Nat} (h : typ o = 2) : typ (link o 0) = 4 := t_lk (by decide +kernel) (by decide) h
theorem fk2_1 : FK RX2 TX2 10 2 1 "ChairTooFew$Party" true := ⟨in2, rfl, rfl, by decide, by decide, by decide, rfl⟩
theorem tl_2_1 {o : Nat} (h : typ o = 2) : typ (link o 1) = 3 := t_lk (by decide +kernel) (by decide) h
theorem fk2_2 : FK RX2 TX2 10 2 2 "ChairTooFew$Party" true := ⟨in2, rfl, rfl, by decide, by decide, by decide, rfl⟩
theorem tl_2_2 {o : Nat} (h : typ o = 2) : typ (link o 2) = 5 := t_lk (by decide +kernel) (by decide) h
theorem fk2_3 : FK RX2 TX2 10 2 3 "ChairTooFew$Party" true := ⟨in2, rfl, rfl, by decide, by decide, by decide, rfl⟩
theorem tl_2_3 {o : Nat} (h : typ o = 2) : typ (link o 3) = 13 := t_lk (by decide +kernel) (by decide) h
theorem al_2_3 {o : Nat} (h : typ o = 2) : alen (link o 3) = 12 := t_ln (by decide +kernel) (by decide) h
theorem fk2_4 : FK RX2 TX2 10 2 4 "ChairTooFew$Party" true := ⟨in2, rfl, rfl, by decide, by decide, by decide, rfl⟩
theorem tl_2_4 {o : Nat} (h : typ o = 2) : typ (link o 4) = 12 := t_lk (by decide +kernel) (by decide) h
theorem al_2_4 {o : Nat} (h : typ o = 2) : alen (link o 4) = 60 := t_ln (by decide +kernel) (by decide) h
theorem fk2_5 : FK RX2 TX2 10 2 5 "ChairTooFew$Party" false := ⟨in2, rfl, rfl, by decide, by decide, by decide, rfl⟩
theorem fp2_5 : FP TX2 10 5 tyX2 .int := ⟨tyX2_ok, nmX2, rfl, rfl⟩
theorem fk2_6 : FK RX2 TX2 10 2 6 "ChairTooFew$Party" false := ⟨in2, rfl, rfl, by decide, by decide, by decide, rfl⟩
theorem fp2_6 : FP TX2 10 6 tyX2 .int := ⟨tyX2_ok, nmX2, rfl, rfl⟩
theorem fk2_7 : FK RX2 TX2 10 2 7 "ChairTooFew$Party" false := ⟨in2, rfl, rfl, by decide, by decide, by decide, rfl⟩
theorem fp2_7 : FP TX2 10 7 tyX2 .int := ⟨tyX2_ok, nmX2, rfl, rfl⟩
theorem fk2_8 : FK RX2 TX2 10 2 8 "ChairTooFew$Party" false := ⟨in2, rfl, rfl, by decide, by decide, by decide, rfl⟩
theorem fp2_8 : FP TX2 10 8 tyX2 .int := ⟨tyX2_ok, nmX2, rfl, rfl⟩
theorem fk2_9 : FK RX2 TX2 10 2 9 "ChairTooFew$Party" false := ⟨in2, rfl, rfl, by decide, by decide, by decide, rfl⟩
theorem fp2_9 : FP TX2 10 9 tyX2 .boolean := ⟨tyX2_ok, nmX2, rfl, rfl⟩
theorem cl_3 : vwCl[3]? = some (RX3, TX3, 3) := rfl
theorem fk3_0 : FK RX3 TX3 3 3 0 "ChairTooFew$Player" false := ⟨in3, rfl, rfl, by decide, by decide, by decide, rfl⟩
theorem fp3_0 : FP TX3 3 0 tyX3 .int := ⟨tyX3_ok, nmX3, rfl, rfl⟩
theorem fk3_1 : FK RX3 TX3 3 3 1 "ChairTooFew$Player" false := ⟨in3, rfl, rfl, by decide, by decide, by decide, rfl⟩
theorem fp3_1 : FP TX3 3 1 tyX3 .int := ⟨tyX3_ok, nmX3, rfl, rfl⟩
theorem fk3_2 : FK RX3 TX3 3 3 2 "ChairTooFew$Player" false := ⟨in3, rfl, rfl, by decide, by decide, by decide, rfl⟩
theorem fp3_2 : FP TX3 3 2 tyX3 .int := ⟨tyX3_ok, nmX3, rfl, rfl⟩
theorem cl_4 : vwCl[4]? = some (RX4, TX4, 4) := rfl
theorem fk4_0 : FK RX4 TX4 4 4 0 "ChairTooFew$Ring" false := ⟨in4, rfl, rfl, by decide, by decide, by decide, rfl⟩
theorem fp4_0 : FP TX4 4 0 tyX4 .int := ⟨tyX4_ok, nmX4, rfl, rfl⟩
theorem fk4_1 : FK RX4 TX4 4 4 1 "ChairTooFew$Ring" false := ⟨in4, rfl, rfl, by decide, by decide, by decide, rfl⟩
theorem fp4_1 : FP TX4 4 1 tyX4 .int := ⟨tyX4_ok, nmX4, rfl, rfl⟩
theorem fk4_2 : FK RX4 TX4 4 4 2 "ChairTooFew$Ring" true := ⟨in4, rfl, rfl, by decide, by decide, by decide, rfl⟩
theorem tl_4_2 {o : Nat} (h : typ o = 4) : typ (link o 2) = 11 := t_lk (by decide +kernel) (by decide) h
theorem al_4_2 {o : Nat} (h : typ o = 4) : alen (link o 2) = 11 := t_ln (by decide +kernel) (by decide) h
theorem fk4_3 : FK RX4 TX4 4 4 3 "ChairTooFew$Ring" true := ⟨in4, rfl, rfl, by decide, by decide, by decide, rfl⟩
theorem tl_4_3 {o : Nat} (h : typ o = 4) : typ (link o 3) = 12 := t_lk (by decide +kernel) (by decide) h
theorem al_4_3 {o : Nat} (h : typ o = 4) : alen (link o 3) = 60 := t_ln (by decide +kernel) (by decide) h
theorem cl_5 : vwCl[5]? = some (RX5, TX5, 5) := rfl
theorem fk5_0 : FK RX5 TX5 5 5 0 "ChairTooFew$Seating" true := ⟨in5, rfl, rfl, by decide, by decide, by decide, rfl⟩
theorem tl_5_0 {o : Nat} (h : typ o = 5) : typ (link o 0) = 11 := t_lk (by decide +kernel) (by decide) h
theorem al_5_0 {o : Nat} (h : typ o = 5) : alen (link o 0) = 12 := t_ln (by decide +kernel) (by decide) h
theorem fk5_1 : FK RX5 TX5 5 5 1 "ChairTooFew$Seating" true := ⟨in5, rfl, rfl, by decide, by decide, by decide, rfl⟩
theorem tl_5_1 {o : Nat} (h : typ o = 5) : typ (link o 1) = 11 := t_lk (by decide +kernel) (by decide) h
theorem al_5_1 {o : Nat} (h : typ o = 5) : alen (link o 1) = 132 := t_ln (by decide +kernel) (by decide) h
theorem fk5_2 : FK RX5 TX5 5 5 2 "ChairTooFew$Seating" true := ⟨in5, rfl, rfl, by decide, by decide, by decide, rfl⟩
theorem tl_5_2 {o : Nat} (h : typ o = 5) : typ (link o 2) = 12 := t_lk (by decide +kernel) (by decide) h
theorem al_5_2 {o : Nat} (h : typ o = 5) : alen (link o 2) = 11 := t_ln (by decide +kernel) (by decide) h
theorem fk5_3 : FK RX5 TX5 5 5 3 "ChairTooFew$Seating" false := ⟨in5, rfl, rfl, by decide, by decide, by decide, rfl⟩
theorem fp5_3 : FP TX5 5 3 tyX5 .int := ⟨tyX5_ok, nmX5, rfl, rfl⟩
theorem fk5_4 : FK RX5 TX5 5 5 4 "ChairTooFew$Seating" false := ⟨in5, rfl, rfl, by decide, by decide, by decide, rfl⟩
theorem fp5_4 : FP TX5 5 4 tyX5 .int := ⟨tyX5_ok, nmX5, rfl, rfl⟩
theorem cl_6 : vwCl[6]? = some (RX6, TX6, 6) := rfl
theorem fk6_0 : FK RX6 TX6 6 6 0 "ChairTooFew$Text" true := ⟨in6, rfl, rfl, by decide, by decide, by decide, rfl⟩
theorem tl_6_0 {o : Nat} (h : typ o = 6) : typ (link o 0) = 10 := t_lk (by decide +kernel) (by decide) h
theorem al_6_0 {o : Nat} (h : typ o = 6) : alen (link o 0) = 64 := t_ln (by decide +kernel) (by decide) h
theorem fk6_1 : FK RX6 TX6 6 6 1 "ChairTooFew$Text" true := ⟨in6, rfl, rfl, by decide, by decide, by decide, rfl⟩
theorem tl_6_1 {o : Nat} (h : typ o = 6) : typ (link o 1) = 11 := t_lk (by decide +kernel) (by decide) h
theorem al_6_1 {o : Nat} (h : typ o = 6) : alen (link o 1) = 3 := t_ln (by decide +kernel) (by decide) h
theorem fk6_2 : FK RX6 TX6 6 6 2 "ChairTooFew$Text" false := ⟨in6, rfl, rfl, by decide, by decide, by decide, rfl⟩
theorem fp6_2 : FP TX6 6 2 tyX6 .int := ⟨tyX6_ok, nmX6, rfl, rfl⟩
theorem fk6_3 : FK RX6 TX6 6 6 3 "ChairTooFew$Text" false := ⟨in6, rfl, rfl, by decide, by decide, by decide, rfl⟩
theorem fp6_3 : FP TX6 6 3 tyX6 .int := ⟨tyX6_ok, nmX6, rfl, rfl⟩
theorem fk6_4 : FK RX6 TX6 6 6 4 "ChairTooFew$Text" false := ⟨in6, rfl, rfl, by decide, by decide, by decide, rfl⟩
theorem fp6_4 : FP TX6 6 4 tyX6 .int := ⟨tyX6_ok, nmX6, rfl, rfl⟩
theorem fk6_5 : FK RX6 TX6 6 6 5 "ChairTooFew$Text" false := ⟨in6, rfl, rfl, by decide, by decide, by decide, rfl⟩
theorem fp6_5 : FP TX6 6 5 tyX6 .int := ⟨tyX6_ok, nmX6, rfl, rfl⟩
theorem cl_7 : vwCl[7]? = some (RX7, TX7, 9) := rfl
theorem fk7_0 : FK RX7 TX7 9 7 0 "ChairTooFew$Walker" false := ⟨in7, rfl, rfl, by decide, by decide, by decide, rfl⟩
theorem fp7_0 : FP TX7 9 0 tyX7 .int := ⟨tyX7_ok, nmX7, rfl, rfl⟩
theorem fk7_1 : FK RX7 TX7 9 7 1 "ChairTooFew$Walker" false := ⟨in7, rfl, rfl, by decide, by decide, by decide, rfl⟩
theorem fp7_1 : FP TX7 9 1 tyX7 .int := ⟨tyX7_ok, nmX7, rfl, rfl⟩
theorem fk7_2 : FK RX7 TX7 9 7 2 "ChairTooFew$Walker" false := ⟨in7, rfl, rfl, by decide, by decide, by decide, rfl⟩
theorem fp7_2 : FP TX7 9 2 tyX7 .boolean := ⟨tyX7_ok, nmX7, rfl, rfl⟩
theorem fk7_3 : FK RX7 TX7 9 7 3 "ChairTooFew$Walker" false := ⟨in7, rfl, rfl, by decide, by decide, by decide, rfl⟩
theorem fp7_3 : FP TX7 9 3 tyX7 .int := ⟨tyX7_ok, nmX7, rfl, rfl⟩
theorem fk7_4 : FK RX7 TX7 9 7 4 "ChairTooFew$Walker" false := ⟨in7, rfl, rfl, by decide, by decide, by decide, rfl⟩
theorem fp7_4 : FP TX7 9 4 tyX7 .int := ⟨tyX7_ok, nmX7, rfl, rfl⟩
theorem fk7_5 : FK RX7 TX7 9 7 5 "ChairTooFew$Walker" false := ⟨in7, rfl, rfl, by decide, by decide, by decide, rfl⟩
theorem fp7_5 : FP TX7 9 5 tyX7 .int := ⟨tyX7_ok, nmX7, rfl, rfl⟩
theorem fk7_6 : FK RX7 TX7 9 7 6 "ChairTooFew$Walker" false := ⟨in7, rfl, rfl, by decide, by decide, by decide, rfl⟩
theorem fp7_6 : FP TX7 9 6 tyX7 .int := ⟨tyX7_ok, nmX7, rfl, rfl⟩
theorem fk7_7 : FK RX7 TX7 9 7 7 "ChairTooFew$Walker" false := ⟨in7, rfl, rfl, by decide, by decide, by decide, rfl⟩
theorem fp7_7 : FP TX7 9 7 tyX7 .int := ⟨tyX7_ok, nmX7, rfl, rfl⟩
theorem fk7_8 : FK RX7 TX7 9 7 8 "ChairTooFew$Walker" false := ⟨in7, rfl, rfl, by decide, by decide, by decide, rfl⟩
theorem fp7_8 : FP TX7 9 8 tyX7 .int := ⟨tyX7_ok, nmX7, rfl, rfl⟩
theorem cl_8 : vwCl[8]? = some (RX8, TX8, 8) := rfl
theorem fk8_0 : FK RX8 TX8 8 8 0 "ChairTooFew" true := ⟨in8, rfl, rfl, by decide, by decide, by decide, rfl⟩
theorem tl_8_0 {o : Nat} (h : typ o = 8) : typ (link o 0) = 0 := t_lk (by decide +kernel) (by decide) h
theorem fk8_1 : FK RX8 TX8 8 8 1 "ChairTooFew" true := ⟨in8, rfl, rfl, by decide, by decide, by decide, rfl⟩
theorem tl_8_1 {o : Nat} (h : typ o = 8) : typ (link o 1) = 2 := t_lk (by decide +kernel) (by decide) h
theorem fk8_2 : FK RX8 TX8 8 8 2 "ChairTooFew" true := ⟨in8, rfl, rfl, by decide, by decide, by decide, rfl⟩
theorem tl_8_2 {o : Nat} (h : typ o = 8) : typ (link o 2) = 2 := t_lk (by decide +kernel) (by decide) h
theorem fk8_3 : FK RX8 TX8 8 8 3 "ChairTooFew" true := ⟨in8, rfl, rfl, by decide, by decide, by decide, rfl⟩
theorem tl_8_3 {o : Nat} (h : typ o = 8) : typ (link o 3) = 1 := t_lk (by decide +kernel) (by decide) h
theorem fk8_4 : FK RX8 TX8 8 8 4 "ChairTooFew" true := ⟨in8, rfl, rfl, by decide, by decide, by decide, rfl⟩
theorem tl_8_4 {o : Nat} (h : typ o = 8) : typ (link o 4) = 1 := t_lk (by decide +kernel) (by decide) h
theorem fk8_5 : FK RX8 TX8 8 8 5 "ChairTooFew" true := ⟨in8, rfl, rfl, by decide, by decide, by decide, rfl⟩
theorem tl_8_5 {o : Nat} (h : typ o = 8) : typ (link o 5) = 6 := t_lk (by decide +kernel) (by decide) h
theorem fk8_6 : FK RX8 TX8 8 8 6 "ChairTooFew" true := ⟨in8, rfl, rfl, by decide, by decide, by decide, rfl⟩
theorem tl_8_6 {o : Nat} (h : typ o = 8) : typ (link o 6) = 11 := t_lk (by decide +kernel) (by decide) h
theorem al_8_6 {o : Nat} (h : typ o = 8) : alen (link o 6) = 7 := t_ln (by decide +kernel) (by decide) h
theorem fk8_7 : FK RX8 TX8 8 8 7 "ChairTooFew" false := ⟨in8, rfl, rfl, by decide, by decide, by decide, rfl⟩
theorem fp8_7 : FP TX8 8 7 tyX8 .boolean := ⟨tyX8_ok, nmX8, rfl, rfl⟩
theorem cl_9 : vwCl[9]? = some (RX9, TX9, 44) := rfl
theorem fk9_0 : FK RX9 TX9 44 9 0 "ChairTooFewModel" true := ⟨in9, rfl, rfl, by decide, by decide, by decide, rfl⟩
theorem tl_9_0 {o : Nat} (h : typ o = 9) : typ (link o 0) = 11 := t_lk (by decide +kernel) (by decide) h
theorem al_9_0 {o : Nat} (h : typ o = 9) : alen (link o 0) = 7 := t_ln (by decide +kernel) (by decide) h
theorem fk9_1 : FK RX9 TX9 44 9 1 "ChairTooFewModel" true := ⟨in9, rfl, rfl, by decide, by decide, by decide, rfl⟩
theorem tl_9_1 {o : Nat} (h : typ o = 9) : typ (link o 1) = 11 := t_lk (by decide +kernel) (by decide) h
theorem al_9_1 {o : Nat} (h : typ o = 9) : alen (link o 1) = 60 := t_ln (by decide +kernel) (by decide) h
theorem fk9_2 : FK RX9 TX9 44 9 2 "ChairTooFewModel" true := ⟨in9, rfl, rfl, by decide, by decide, by decide, rfl⟩
theorem tl_9_2 {o : Nat} (h : typ o = 9) : typ (link o 2) = 11 := t_lk (by decide +kernel) (by decide) h
theorem al_9_2 {o : Nat} (h : typ o = 9) : alen (link o 2) = 12 := t_ln (by decide +kernel) (by decide) h
theorem fk9_3 : FK RX9 TX9 44 9 3 "ChairTooFewModel" true := ⟨in9, rfl, rfl, by decide, by decide, by decide, rfl⟩
theorem tl_9_3 {o : Nat} (h : typ o = 9) : typ (link o 3) = 11 := t_lk (by decide +kernel) (by decide) h
theorem al_9_3 {o : Nat} (h : typ o = 9) : alen (link o 3) = 12 := t_ln (by decide +kernel) (by decide) h
theorem fk9_4 : FK RX9 TX9 44 9 4 "ChairTooFewModel" true := ⟨in9, rfl, rfl, by decide, by decide, by decide, rfl⟩
theorem tl_9_4 {o : Nat} (h : typ o = 9) : typ (link o 4) = 11 := t_lk (by decide +kernel) (by decide) h
theorem al_9_4 {o : Nat} (h : typ o = 9) : alen (link o 4) = 12 := t_ln (by decide +kernel) (by decide) h
theorem fk9_5 : FK RX9 TX9 44 9 5 "ChairTooFewModel" true := ⟨in9, rfl, rfl, by decide, by decide, by decide, rfl⟩
theorem tl_9_5 {o : Nat} (h : typ o = 9) : typ (link o 5) = 11 := t_lk (by decide +kernel) (by decide) h
theorem al_9_5 {o : Nat} (h : typ o = 9) : alen (link o 5) = 12 := t_ln (by decide +kernel) (by decide) h
theorem fk9_6 : FK RX9 TX9 44 9 6 "ChairTooFewModel" true := ⟨in9, rfl, rfl, by decide, by decide, by decide, rfl⟩
theorem tl_9_6 {o : Nat} (h : typ o = 9) : typ (link o 6) = 11 := t_lk (by decide +kernel) (by decide) h
theorem al_9_6 {o : Nat} (h : typ o = 9) : alen (link o 6) = 12 := t_ln (by decide +kernel) (by decide) h
theorem fk9_7 : FK RX9 TX9 44 9 7 "ChairTooFewModel" true := ⟨in9, rfl, rfl, by decide, by decide, by decide, rfl⟩
theorem tl_9_7 {o : Nat} (h : typ o = 9) : typ (link o 7) = 11 := t_lk (by decide +kernel) (by decide) h
theorem al_9_7 {o : Nat} (h : typ o = 9) : alen (link o 7) = 12 := t_ln (by decide +kernel) (by decide) h
theorem fk9_8 : FK RX9 TX9 44 9 8 "ChairTooFewModel" true := ⟨in9, rfl, rfl, by decide, by decide, by decide, rfl⟩
theorem tl_9_8 {o : Nat} (h : typ o = 9) : typ (link o 8) = 11 := t_lk (by decide +kernel) (by decide) h
theorem al_9_8 {o : Nat} (h : typ o = 9) : alen (link o 8) = 12 := t_ln (by decide +kernel) (by decide) h
theorem fk9_9 : FK RX9 TX9 44 9 9 "ChairTooFewModel" true := ⟨in9, rfl, rfl, by decide, by decide, by decide, rfl⟩
theorem tl_9_9 {o : Nat} (h : typ o = 9) : typ (link o 9) = 11 := t_lk (by decide +kernel) (by decide) h
theorem al_9_9 {o : Nat} (h : typ o = 9) : alen (link o 9) = 12 := t_ln (by decide +kernel) (by decide) h
theorem fk9_10 : FK RX9 TX9 44 9 10 "ChairTooFewModel" true := ⟨in9, rfl, rfl, by decide, by decide, by decide, rfl⟩
theorem tl_9_10 {o : Nat} (h : typ o = 9) : typ (link o 10) = 11 := t_lk (by decide +kernel) (by decide) h
theorem al_9_10 {o : Nat} (h : typ o = 9) : alen (link o 10) = 12 := t_ln (by decide +kernel) (by decide) h
theorem fk9_11 : FK RX9 TX9 44 9 11 "ChairTooFewModel" false := ⟨in9, rfl, rfl, by decide, by decide, by decide, rfl⟩
theorem fp9_11 : FP TX9 44 11 tyX9 .int := ⟨tyX9_ok, nmX9, rfl, rfl⟩
theorem fk9_12 : FK RX9 TX9 44 9 12 "ChairTooFewModel" false := ⟨in9, rfl, rfl, by decide, by decide, by decide, rfl⟩
theorem fp9_12 : FP TX9 44 12 tyX9 .int := ⟨tyX9_ok, nmX9, rfl, rfl⟩
theorem fk9_13 : FK RX9 TX9 44 9 13 "ChairTooFewModel" false := ⟨in9, rfl, rfl, by decide, by decide, by decide, rfl⟩
theorem fp9_13 : FP TX9 44 13 tyX9 .int := ⟨tyX9_ok, nmX9, rfl, rfl⟩
theorem fk9_14 : FK RX9 TX9 44 9 14 "ChairTooFewModel" false := ⟨in9, rfl, rfl, by decide, by decide, by decide, rfl⟩
theorem fp9_14 : FP TX9 44 14 tyX9 .int := ⟨tyX9_ok, nmX9, rfl, rfl⟩
theorem fk9_15 : FK RX9 TX9 44 9 15 "ChairTooFewModel" false := ⟨in9, rfl, rfl, by decide, by decide, by decide, rfl⟩
theorem fp9_15 : FP TX9 44 15 tyX9 .int := ⟨tyX9_ok, nmX9, rfl, rfl⟩
theorem fk9_16 : FK RX9 TX9 44 9 16 "ChairTooFewModel" false := ⟨in9, rfl, rfl, by decide, by decide, by decide, rfl⟩
theorem fp9_16 : FP TX9 44 16 tyX9 .int := ⟨tyX9_ok, nmX9, rfl, rfl⟩
theorem fk9_17 : FK RX9 TX9 44 9 17 "ChairTooFewModel" false := ⟨in9, rfl, rfl, by decide, by decide, by decide, rfl⟩
theorem fp9_17 : FP TX9 44 17 tyX9 .int := ⟨tyX9_ok, nmX9, rfl, rfl⟩
theorem fk9_18 : FK RX9 TX9 44 9 18 "ChairTooFewModel" false := ⟨in9, rfl, rfl, by decide, by decide, by decide, rfl⟩
theorem fp9_18 : FP TX9 44 18 tyX9 .int := ⟨tyX9_ok, nmX9, rfl, rfl⟩
theorem fk9_19 : FK RX9 TX9 44 9 19 "ChairTooFewModel" false := ⟨in9, rfl, rfl, by decide, by decide, by decide, rfl⟩
theorem fp9_19 : FP TX9 44 19 tyX9 .int := ⟨tyX9_ok, nmX9, rfl, rfl⟩
theorem fk9_20 : FK RX9 TX9 44 9 20 "ChairTooFewModel" true := ⟨in9, rfl, rfl, by decide, by decide, by decide, rfl⟩
theorem tl_9_20 {o : Nat} (h : typ o = 9) : typ (link o 20) = 11 := t_lk (by decide +kernel) (by decide) h
theorem al_9_20 {o : Nat} (h : typ o = 9) : alen (link o 20) = 64 := t_ln (by decide +kernel) (by decide) h
theorem fk9_21 : FK RX9 TX9 44 9 21 "ChairTooFewModel" true := ⟨in9, rfl, rfl, by decide, by decide, by decide, rfl⟩
theorem tl_9_21 {o : Nat} (h : typ o = 9) : typ (link o 21) = 11 := t_lk (by decide +kernel) (by decide) h
theorem al_9_21 {o : Nat} (h : typ o = 9) : alen (link o 21) = 32 := t_ln (by decide +kernel) (by decide) h
theorem fk9_22 : FK RX9 TX9 44 9 22 "ChairTooFewModel" true := ⟨in9, rfl, rfl, by decide, by decide, by decide, rfl⟩
theorem tl_9_22 {o : Nat} (h : typ o = 9) : typ (link o 22) = 11 := t_lk (by decide +kernel) (by decide) h
theorem al_9_22 {o : Nat} (h : typ o = 9) : alen (link o 22) = 32 := t_ln (by decide +kernel) (by decide) h
theorem fk9_23 : FK RX9 TX9 44 9 23 "ChairTooFewModel" true := ⟨in9, rfl, rfl, by decide, by decide, by decide, rfl⟩
theorem tl_9_23 {o : Nat} (h : typ o = 9) : typ (link o 23) = 11 := t_lk (by decide +kernel) (by decide) h
theorem al_9_23 {o : Nat} (h : typ o = 9) : alen (link o 23) = 32 := t_ln (by decide +kernel) (by decide) h
theorem fk9_24 : FK RX9 TX9 44 9 24 "ChairTooFewModel" true := ⟨in9, rfl, rfl, by decide, by decide, by decide, rfl⟩
theorem tl_9_24 {o : Nat} (h : typ o = 9) : typ (link o 24) = 11 := t_lk (by decide +kernel) (by decide) h
theorem al_9_24 {o : Nat} (h : typ o = 9) : alen (link o 24) = 32 := t_ln (by decide +kernel) (by decide) h
theorem fk9_25 : FK RX9 TX9 44 9 25 "ChairTooFewModel" true := ⟨in9, rfl, rfl, by decide, by decide, by decide, rfl⟩
theorem tl_9_25 {o : Nat} (h : typ o = 9) : typ (link o 25) = 11 := t_lk (by decide +kernel) (by decide) h
theorem al_9_25 {o : Nat} (h : typ o = 9) : alen (link o 25) = 32 := t_ln (by decide +kernel) (by decide) h
theorem fk9_26 : FK RX9 TX9 44 9 26 "ChairTooFewModel" false := ⟨in9, rfl, rfl, by decide, by decide, by decide, rfl⟩
theorem fp9_26 : FP TX9 44 26 tyX9 .int := ⟨tyX9_ok, nmX9, rfl, rfl⟩
theorem fk9_27 : FK RX9 TX9 44 9 27 "ChairTooFewModel" false := ⟨in9, rfl, rfl, by decide, by decide, by decide, rfl⟩
theorem fp9_27 : FP TX9 44 27 tyX9 .int := ⟨tyX9_ok, nmX9, rfl, rfl⟩
theorem fk9_28 : FK RX9 TX9 44 9 28 "ChairTooFewModel" false := ⟨in9, rfl, rfl, by decide, by decide, by decide, rfl⟩
theorem fp9_28 : FP TX9 44 28 tyX9 .int := ⟨tyX9_ok, nmX9, rfl, rfl⟩
theorem fk9_29 : FK RX9 TX9 44 9 29 "ChairTooFewModel" true := ⟨in9, rfl, rfl, by decide, by decide, by decide, rfl⟩
theorem tl_9_29 {o : Nat} (h : typ o = 9) : typ (link o 29) = 11 := t_lk (by decide +kernel) (by decide) h
theorem al_9_29 {o : Nat} (h : typ o = 9) : alen (link o 29) = 400 := t_ln (by decide +kernel) (by decide) h
theorem fk9_30 : FK RX9 TX9 44 9 30 "ChairTooFewModel" false := ⟨in9, rfl, rfl, by decide, by decide, by decide, rfl⟩
theorem fp9_30 : FP TX9 44 30 tyX9 .boolean := ⟨tyX9_ok, nmX9, rfl, rfl⟩
theorem fk9_31 : FK RX9 TX9 44 9 31 "ChairTooFewModel" false := ⟨in9, rfl, rfl, by decide, by decide, by decide, rfl⟩
theorem fp9_31 : FP TX9 44 31 tyX9 .boolean := ⟨tyX9_ok, nmX9, rfl, rfl⟩
theorem fk9_32 : FK RX9 TX9 44 9 32 "ChairTooFewModel" false := ⟨in9, rfl, rfl, by decide, by decide, by decide, rfl⟩
theorem fp9_32 : FP TX9 44 32 tyX9 .int := ⟨tyX9_ok, nmX9, rfl, rfl⟩
theorem fk9_33 : FK RX9 TX9 44 9 33 "ChairTooFewModel" true := ⟨in9, rfl, rfl, by decide, by decide, by decide, rfl⟩
theorem tl_9_33 {o : Nat} (h : typ o = 9) : typ (link o 33) = 11 := t_lk (by decide +kernel) (by decide) h
theorem al_9_33 {o : Nat} (h : typ o = 9) : alen (link o 33) = 12 := t_ln (by decide +kernel) (by decide) h
theorem fk9_34 : FK RX9 TX9 44 9 34 "ChairTooFewModel" true := ⟨in9, rfl, rfl, by decide, by decide, by decide, rfl⟩
theorem tl_9_34 {o : Nat} (h : typ o = 9) : typ (link o 34) = 11 := t_lk (by decide +kernel) (by decide) h
theorem al_9_34 {o : Nat} (h : typ o = 9) : alen (link o 34) = 12 := t_ln (by decide +kernel) (by decide) h
theorem fk9_35 : FK RX9 TX9 44 9 35 "ChairTooFewModel" false := ⟨in9, rfl, rfl, by decide, by decide, by decide, rfl⟩
theorem fp9_35 : FP TX9 44 35 tyX9 .int := ⟨tyX9_ok, nmX9, rfl, rfl⟩
theorem fk9_36 : FK RX9 TX9 44 9 36 "ChairTooFewModel" false := ⟨in9, rfl, rfl, by decide, by decide, by decide, rfl⟩
theorem fp9_36 : FP TX9 44 36 tyX9 .int := ⟨tyX9_ok, nmX9, rfl, rfl⟩
theorem fk9_37 : FK RX9 TX9 44 9 37 "ChairTooFewModel" false := ⟨in9, rfl, rfl, by decide, by decide, by decide, rfl⟩
theorem fp9_37 : FP TX9 44 37 tyX9 .int := ⟨tyX9_ok, nmX9, rfl, rfl⟩
theorem fk9_38 : FK RX9 TX9 44 9 38 "ChairTooFewModel" false := ⟨in9, rfl, rfl, by decide, by decide, by decide, rfl⟩
theorem fp9_38 : FP TX9 44 38 tyX9 .int := ⟨tyX9_ok, nmX9, rfl, rfl⟩
theorem fk9_39 : FK RX9 TX9 44 9 39 "ChairTooFewModel" false := ⟨in9, rfl, rfl, by decide, by decide, by decide, rfl⟩
theorem fp9_39 : FP TX9 44 39 tyX9 .int := ⟨tyX9_ok, nmX9, rfl, rfl⟩
theorem fk9_40 : FK RX9 TX9 44 9 40 "ChairTooFewModel" true := ⟨in9, rfl, rfl, by decide, by decide, by decide, rfl⟩
theorem tl_9_40 {o : Nat} (h : typ o = 9) : typ (link o 40) = 11 := t_lk (by decide +kernel) (by decide) h
theorem al_9_40 {o : Nat} (h : typ o = 9) : alen (link o 40) = 16 := t_ln (by decide +kernel) (by decide) h
theorem fk9_41 : FK RX9 TX9 44 9 41 "ChairTooFewModel" true := ⟨in9, rfl, rfl, by decide, by decide, by decide, rfl⟩
theorem tl_9_41 {o : Nat} (h : typ o = 9) : typ (link o 41) = 11 := t_lk (by decide +kernel) (by decide) h
theorem al_9_41 {o : Nat} (h : typ o = 9) : alen (link o 41) = 60 := t_ln (by decide +kernel) (by decide) h
theorem fk9_42 : FK RX9 TX9 44 9 42 "ChairTooFewModel" false := ⟨in9, rfl, rfl, by decide, by decide, by decide, rfl⟩
theorem fp9_42 : FP TX9 44 42 tyX9 .int := ⟨tyX9_ok, nmX9, rfl, rfl⟩
theorem fk9_43 : FK RX9 TX9 44 9 43 "ChairTooFewModel" false := ⟨in9, rfl, rfl, by decide, by decide, by decide, rfl⟩
theorem fp9_43 : FP TX9 44 43 tyX9 .int := ⟨tyX9_ok, nmX9, rfl, rfl⟩
