theorem dX5_seatLeastHaste_91 : decode cX5_seatLeastHaste 91 = .ok (.goto (-69), 3) := by decide +kernel
theorem dX5_seatLeastHaste_94 : decode cX5_seatLeastHaste 94 = .ok (.iinc 4 1, 3) := by decide +kernel
theorem dX5_seatLeastHaste_97 : decode cX5_seatLeastHaste 97 = .ok (.goto (-87), 3) := by decide +kernel
theorem dX5_seatLeastHaste_100 : decode cX5_seatLeastHaste 100 = .ok (.iload_n 2, 1) := by decide +kernel
theorem dX5_seatLeastHaste_101 : decode cX5_seatLeastHaste 101 = .ok (.ifCond .lt 7, 3) := by decide +kernel
theorem dX5_seatLeastHaste_104 : decode cX5_seatLeastHaste 104 = .ok (.iload_n 3, 1) := by decide +kernel
theorem dX5_seatLeastHaste_105 : decode cX5_seatLeastHaste 105 = .ok (.ifCond .ge 5, 3) := by decide +kernel
theorem dX5_seatLeastHaste_108 : decode cX5_seatLeastHaste 108 = .ok (.iconst 0, 1) := by decide +kernel
theorem dX5_seatLeastHaste_109 : decode cX5_seatLeastHaste 109 = .ok (.ireturn, 1) := by decide +kernel
theorem dX5_seatLeastHaste_110 : decode cX5_seatLeastHaste 110 = .ok (.aload_n 0, 1) := by decide +kernel
theorem dX5_seatLeastHaste_111 : decode cX5_seatLeastHaste 111 = .ok (.getfield 9, 3) := by decide +kernel
theorem dX5_seatLeastHaste_114 : decode cX5_seatLeastHaste 114 = .ok (.iload_n 2, 1) := by decide +kernel
theorem dX5_seatLeastHaste_115 : decode cX5_seatLeastHaste 115 = .ok (.iload_n 3, 1) := by decide +kernel
theorem dX5_seatLeastHaste_116 : decode cX5_seatLeastHaste 116 = .ok (.iastore, 1) := by decide +kernel
theorem dX5_seatLeastHaste_117 : decode cX5_seatLeastHaste 117 = .ok (.aload_n 0, 1) := by decide +kernel
theorem dX5_seatLeastHaste_118 : decode cX5_seatLeastHaste 118 = .ok (.getfield 18, 3) := by decide +kernel
theorem dX5_seatLeastHaste_121 : decode cX5_seatLeastHaste 121 = .ok (.iload_n 3, 1) := by decide +kernel
theorem dX5_seatLeastHaste_122 : decode cX5_seatLeastHaste 122 = .ok (.iconst 0, 1) := by decide +kernel
theorem dX5_seatLeastHaste_123 : decode cX5_seatLeastHaste 123 = .ok (.bastore, 1) := by decide +kernel
theorem dX5_seatLeastHaste_124 : decode cX5_seatLeastHaste 124 = .ok (.iconst 1, 1) := by decide +kernel
theorem dX5_seatLeastHaste_125 : decode cX5_seatLeastHaste 125 = .ok (.ireturn, 1) := by decide +kernel
theorem dX5_giveWay_0 : decode cX5_giveWay 0 = .ok (.aload_n 0, 1) := by decide +kernel
theorem dX5_giveWay_1 : decode cX5_giveWay 1 = .ok (.getfield 9, 3) := by decide +kernel
theorem dX5_giveWay_4 : decode cX5_giveWay 4 = .ok (.iload_n 1, 1) := by decide +kernel
theorem dX5_giveWay_5 : decode cX5_giveWay 5 = .ok (.iaload, 1) := by decide +kernel
theorem dX5_giveWay_6 : decode cX5_giveWay 6 = .ok (.istore_n 2, 1) := by decide +kernel
theorem dX5_giveWay_7 : decode cX5_giveWay 7 = .ok (.aload_n 0, 1) := by decide +kernel
theorem dX5_giveWay_8 : decode cX5_giveWay 8 = .ok (.getfield 15, 3) := by decide +kernel
theorem dX5_giveWay_11 : decode cX5_giveWay 11 = .ok (.iload_n 1, 1) := by decide +kernel
theorem dX5_giveWay_12 : decode cX5_giveWay 12 = .ok (.bipush 11, 2) := by decide +kernel
theorem dX5_giveWay_14 : decode cX5_giveWay 14 = .ok (.imul, 1) := by decide +kernel
theorem dX5_giveWay_15 : decode cX5_giveWay 15 = .ok (.iload_n 2, 1) := by decide +kernel
theorem dX5_giveWay_16 : decode cX5_giveWay 16 = .ok (.iadd, 1) := by decide +kernel
theorem dX5_giveWay_17 : decode cX5_giveWay 17 = .ok (.iaload, 1) := by decide +kernel
theorem dX5_giveWay_18 : decode cX5_giveWay 18 = .ok (.istore_n 3, 1) := by decide +kernel
theorem dX5_giveWay_19 : decode cX5_giveWay 19 = .ok (.iconst 0, 1) := by decide +kernel
theorem dX5_giveWay_20 : decode cX5_giveWay 20 = .ok (.istore 4, 2) := by decide +kernel
theorem dX5_giveWay_22 : decode cX5_giveWay 22 = .ok (.iload 4, 2) := by decide +kernel
theorem dX5_giveWay_24 : decode cX5_giveWay 24 = .ok (.aload_n 0, 1) := by decide +kernel
theorem dX5_giveWay_25 : decode cX5_giveWay 25 = .ok (.getfield 22, 3) := by decide +kernel
theorem dX5_giveWay_28 : decode cX5_giveWay 28 = .ok (.if_icmp .ge 51, 3) := by decide +kernel
theorem dX5_giveWay_31 : decode cX5_giveWay 31 = .ok (.aload_n 0, 1) := by decide +kernel
theorem dX5_giveWay_32 : decode cX5_giveWay 32 = .ok (.getfield 9, 3) := by decide +kernel
theorem dX5_giveWay_35 : decode cX5_giveWay 35 = .ok (.iload 4, 2) := by decide +kernel
theorem dX5_giveWay_37 : decode cX5_giveWay 37 = .ok (.iaload, 1) := by decide +kernel
theorem dX5_giveWay_38 : decode cX5_giveWay 38 = .ok (.ifCond .ge 35, 3) := by decide +kernel
theorem dX5_giveWay_41 : decode cX5_giveWay 41 = .ok (.aload_n 0, 1) := by decide +kernel
theorem dX5_giveWay_42 : decode cX5_giveWay 42 = .ok (.getfield 15, 3) := by decide +kernel
theorem dX5_giveWay_45 : decode cX5_giveWay 45 = .ok (.iload 4, 2) := by decide +kernel
theorem dX5_giveWay_47 : decode cX5_giveWay 47 = .ok (.bipush 11, 2) := by decide +kernel
theorem dX5_giveWay_49 : decode cX5_giveWay 49 = .ok (.imul, 1) := by decide +kernel
theorem dX5_giveWay_50 : decode cX5_giveWay 50 = .ok (.iload_n 2, 1) := by decide +kernel
theorem dX5_giveWay_51 : decode cX5_giveWay 51 = .ok (.iadd, 1) := by decide +kernel
theorem dX5_giveWay_52 : decode cX5_giveWay 52 = .ok (.iaload, 1) := by decide +kernel
theorem dX5_giveWay_53 : decode cX5_giveWay 53 = .ok (.iload_n 3, 1) := by decide +kernel
theorem dX5_giveWay_54 : decode cX5_giveWay 54 = .ok (.if_icmp .gt 19, 3) := by decide +kernel
theorem dX5_giveWay_57 : decode cX5_giveWay 57 = .ok (.aload_n 0, 1) := by decide +kernel
theorem dX5_giveWay_58 : decode cX5_giveWay 58 = .ok (.getfield 9, 3) := by decide +kernel
theorem dX5_giveWay_61 : decode cX5_giveWay 61 = .ok (.iload 4, 2) := by decide +kernel
theorem dX5_giveWay_63 : decode cX5_giveWay 63 = .ok (.iload_n 2, 1) := by decide +kernel
theorem dX5_giveWay_64 : decode cX5_giveWay 64 = .ok (.iastore, 1) := by decide +kernel
theorem dX5_giveWay_65 : decode cX5_giveWay 65 = .ok (.aload_n 0, 1) := by decide +kernel
theorem dX5_giveWay_66 : decode cX5_giveWay 66 = .ok (.getfield 9, 3) := by decide +kernel
theorem dX5_giveWay_69 : decode cX5_giveWay 69 = .ok (.iload_n 1, 1) := by decide +kernel
theorem dX5_giveWay_70 : decode cX5_giveWay 70 = .ok (.iconst (-1), 1) := by decide +kernel
theorem dX5_giveWay_71 : decode cX5_giveWay 71 = .ok (.iastore, 1) := by decide +kernel
theorem dX5_giveWay_72 : decode cX5_giveWay 72 = .ok (.return_, 1) := by decide +kernel
theorem dX5_giveWay_73 : decode cX5_giveWay 73 = .ok (.iinc 4 1, 3) := by decide +kernel
theorem dX5_giveWay_76 : decode cX5_giveWay 76 = .ok (.goto (-54), 3) := by decide +kernel
theorem dX5_giveWay_79 : decode cX5_giveWay 79 = .ok (.return_, 1) := by decide +kernel
theorem dX6_init_0 : decode cX6_init 0 = .ok (.aload_n 0, 1) := by decide +kernel
theorem dX6_init_1 : decode cX6_init 1 = .ok (.invokespecial 3, 3) := by decide +kernel
theorem dX6_init_4 : decode cX6_init 4 = .ok (.aload_n 0, 1) := by decide +kernel
theorem dX6_init_5 : decode cX6_init 5 = .ok (.bipush 64, 2) := by decide +kernel
theorem dX6_init_7 : decode cX6_init 7 = .ok (.newarray .byte, 2) := by decide +kernel
theorem dX6_init_9 : decode cX6_init 9 = .ok (.putfield 9, 3) := by decide +kernel
theorem dX6_init_12 : decode cX6_init 12 = .ok (.aload_n 0, 1) := by decide +kernel
theorem dX6_init_13 : decode cX6_init 13 = .ok (.iconst 3, 1) := by decide +kernel
theorem dX6_init_14 : decode cX6_init 14 = .ok (.newarray .int, 2) := by decide +kernel
theorem dX6_init_16 : decode cX6_init 16 = .ok (.putfield 15, 3) := by decide +kernel
theorem dX6_init_19 : decode cX6_init 19 = .ok (.aload_n 0, 1) := by decide +kernel
theorem dX6_init_20 : decode cX6_init 20 = .ok (.iconst 0, 1) := by decide +kernel
theorem dX6_init_21 : decode cX6_init 21 = .ok (.putfield 19, 3) := by decide +kernel
theorem dX6_init_24 : decode cX6_init 24 = .ok (.aload_n 0, 1) := by decide +kernel
theorem dX6_init_25 : decode cX6_init 25 = .ok (.iconst 0, 1) := by decide +kernel
theorem dX6_init_26 : decode cX6_init 26 = .ok (.putfield 23, 3) := by decide +kernel
theorem dX6_init_29 : decode cX6_init 29 = .ok (.aload_n 0, 1) := by decide +kernel
theorem dX6_init_30 : decode cX6_init 30 = .ok (.iconst 0, 1) := by decide +kernel
theorem dX6_init_31 : decode cX6_init 31 = .ok (.putfield 26, 3) := by decide +kernel
theorem dX6_init_34 : decode cX6_init 34 = .ok (.aload_n 0, 1) := by decide +kernel
theorem dX6_init_35 : decode cX6_init 35 = .ok (.iconst 0, 1) := by decide +kernel
theorem dX6_init_36 : decode cX6_init 36 = .ok (.putfield 29, 3) := by decide +kernel
theorem dX6_init_39 : decode cX6_init 39 = .ok (.return_, 1) := by decide +kernel
theorem dX6_append_0 : decode cX6_append 0 = .ok (.iconst 0, 1) := by decide +kernel
theorem dX6_append_1 : decode cX6_append 1 = .ok (.istore 4, 2) := by decide +kernel
theorem dX6_append_3 : decode cX6_append 3 = .ok (.iload 4, 2) := by decide +kernel
theorem dX6_append_5 : decode cX6_append 5 = .ok (.iload_n 1, 1) := by decide +kernel
theorem dX6_append_6 : decode cX6_append 6 = .ok (.if_icmp .ge 46, 3) := by decide +kernel
theorem dX6_append_9 : decode cX6_append 9 = .ok (.aload_n 0, 1) := by decide +kernel
theorem dX6_append_10 : decode cX6_append 10 = .ok (.getfield 26, 3) := by decide +kernel
theorem dX6_append_13 : decode cX6_append 13 = .ok (.bipush 64, 2) := by decide +kernel
theorem dX6_append_15 : decode cX6_append 15 = .ok (.if_icmp .ge 37, 3) := by decide +kernel
theorem dX6_append_18 : decode cX6_append 18 = .ok (.aload_n 0, 1) := by decide +kernel
theorem dX6_append_19 : decode cX6_append 19 = .ok (.getfield 9, 3) := by decide +kernel
theorem dX6_append_22 : decode cX6_append 22 = .ok (.aload_n 0, 1) := by decide +kernel
theorem dX6_append_23 : decode cX6_append 23 = .ok (.getfield 26, 3) := by decide +kernel
theorem dX6_append_26 : decode cX6_append 26 = .ok (.lload_n 2, 1) := by decide +kernel
theorem dX6_append_27 : decode cX6_append 27 = .ok (.bipush 8, 2) := by decide +kernel
theorem dX6_append_29 : decode cX6_append 29 = .ok (.iload 4, 2) := by decide +kernel
theorem dX6_append_31 : decode cX6_append 31 = .ok (.imul, 1) := by decide +kernel
theorem dX6_append_32 : decode cX6_append 32 = .ok (.lushr, 1) := by decide +kernel
theorem dX6_append_33 : decode cX6_append 33 = .ok (.l2i, 1) := by decide +kernel
theorem dX6_append_34 : decode cX6_append 34 = .ok (.i2b, 1) := by decide +kernel
theorem dX6_append_35 : decode cX6_append 35 = .ok (.bastore, 1) := by decide +kernel
theorem dX6_append_36 : decode cX6_append 36 = .ok (.aload_n 0, 1) := by decide +kernel
theorem dX6_append_37 : decode cX6_append 37 = .ok (.dup, 1) := by decide +kernel
theorem dX6_append_38 : decode cX6_append 38 = .ok (.getfield 26, 3) := by decide +kernel
theorem dX6_append_41 : decode cX6_append 41 = .ok (.iconst 1, 1) := by decide +kernel
theorem dX6_append_42 : decode cX6_append 42 = .ok (.iadd, 1) := by decide +kernel
theorem dX6_append_43 : decode cX6_append 43 = .ok (.putfield 26, 3) := by decide +kernel
theorem dX6_append_46 : decode cX6_append 46 = .ok (.iinc 4 1, 3) := by decide +kernel
theorem dX6_append_49 : decode cX6_append 49 = .ok (.goto (-46), 3) := by decide +kernel
theorem dX6_append_52 : decode cX6_append 52 = .ok (.return_, 1) := by decide +kernel
theorem dX6_firstMisfit_0 : decode cX6_firstMisfit 0 = .ok (.aload_n 0, 1) := by decide +kernel
theorem dX6_firstMisfit_1 : decode cX6_firstMisfit 1 = .ok (.invokevirtual 32, 3) := by decide +kernel
theorem dX6_firstMisfit_4 : decode cX6_firstMisfit 4 = .ok (.iconst 0, 1) := by decide +kernel
theorem dX6_firstMisfit_5 : decode cX6_firstMisfit 5 = .ok (.istore_n 1, 1) := by decide +kernel
theorem dX6_firstMisfit_6 : decode cX6_firstMisfit 6 = .ok (.iload_n 1, 1) := by decide +kernel
theorem dX6_firstMisfit_7 : decode cX6_firstMisfit 7 = .ok (.bipush 64, 2) := by decide +kernel
theorem dX6_firstMisfit_9 : decode cX6_firstMisfit 9 = .ok (.if_icmp .ge 36, 3) := by decide +kernel
theorem dX6_firstMisfit_12 : decode cX6_firstMisfit 12 = .ok (.iload_n 1, 1) := by decide +kernel
theorem dX6_firstMisfit_13 : decode cX6_firstMisfit 13 = .ok (.ifCond .eq 14, 3) := by decide +kernel
theorem dX6_firstMisfit_16 : decode cX6_firstMisfit 16 = .ok (.aload_n 0, 1) := by decide +kernel
theorem dX6_firstMisfit_17 : decode cX6_firstMisfit 17 = .ok (.getfield 19, 3) := by decide +kernel
theorem dX6_firstMisfit_20 : decode cX6_firstMisfit 20 = .ok (.aload_n 0, 1) := by decide +kernel
theorem dX6_firstMisfit_21 : decode cX6_firstMisfit 21 = .ok (.getfield 26, 3) := by decide +kernel
theorem dX6_firstMisfit_24 : decode cX6_firstMisfit 24 = .ok (.if_icmp .ge 21, 3) := by decide +kernel
theorem dX6_firstMisfit_27 : decode cX6_firstMisfit 27 = .ok (.aload_n 0, 1) := by decide +kernel
theorem dX6_firstMisfit_28 : decode cX6_firstMisfit 28 = .ok (.invokevirtual 35, 3) := by decide +kernel
theorem dX6_firstMisfit_31 : decode cX6_firstMisfit 31 = .ok (.ifCond .ne 8, 3) := by decide +kernel
theorem dX6_firstMisfit_34 : decode cX6_firstMisfit 34 = .ok (.aload_n 0, 1) := by decide +kernel
theorem dX6_firstMisfit_35 : decode cX6_firstMisfit 35 = .ok (.getfield 19, 3) := by decide +kernel
theorem dX6_firstMisfit_38 : decode cX6_firstMisfit 38 = .ok (.ireturn, 1) := by decide +kernel
theorem dX6_firstMisfit_39 : decode cX6_firstMisfit 39 = .ok (.iinc 1 1, 3) := by decide +kernel
theorem dX6_firstMisfit_42 : decode cX6_firstMisfit 42 = .ok (.goto (-36), 3) := by decide +kernel
theorem dX6_firstMisfit_45 : decode cX6_firstMisfit 45 = .ok (.iconst (-1), 1) := by decide +kernel
theorem dX6_firstMisfit_46 : decode cX6_firstMisfit 46 = .ok (.ireturn, 1) := by decide +kernel
theorem dX6_firstImpossible_0 : decode cX6_firstImpossible 0 = .ok (.aload_n 0, 1) := by decide +kernel
theorem dX6_firstImpossible_1 : decode cX6_firstImpossible 1 = .ok (.invokevirtual 32, 3) := by decide +kernel
theorem dX6_firstImpossible_4 : decode cX6_firstImpossible 4 = .ok (.iconst 0, 1) := by decide +kernel
theorem dX6_firstImpossible_5 : decode cX6_firstImpossible 5 = .ok (.istore_n 2, 1) := by decide +kernel
theorem dX6_firstImpossible_6 : decode cX6_firstImpossible 6 = .ok (.iload_n 2, 1) := by decide +kernel
theorem dX6_firstImpossible_7 : decode cX6_firstImpossible 7 = .ok (.bipush 64, 2) := by decide +kernel
theorem dX6_firstImpossible_9 : decode cX6_firstImpossible 9 = .ok (.if_icmp .ge 50, 3) := by decide +kernel
theorem dX6_firstImpossible_12 : decode cX6_firstImpossible 12 = .ok (.aload_n 0, 1) := by decide +kernel
theorem dX6_firstImpossible_13 : decode cX6_firstImpossible 13 = .ok (.getfield 19, 3) := by decide +kernel
theorem dX6_firstImpossible_16 : decode cX6_firstImpossible 16 = .ok (.aload_n 0, 1) := by decide +kernel
theorem dX6_firstImpossible_17 : decode cX6_firstImpossible 17 = .ok (.getfield 26, 3) := by decide +kernel
theorem dX6_firstImpossible_20 : decode cX6_firstImpossible 20 = .ok (.if_icmp .ge 39, 3) := by decide +kernel
theorem dX6_firstImpossible_23 : decode cX6_firstImpossible 23 = .ok (.aload_n 0, 1) := by decide +kernel
theorem dX6_firstImpossible_24 : decode cX6_firstImpossible 24 = .ok (.getfield 19, 3) := by decide +kernel
theorem dX6_firstImpossible_27 : decode cX6_firstImpossible 27 = .ok (.istore_n 3, 1) := by decide +kernel
theorem dX6_firstImpossible_28 : decode cX6_firstImpossible 28 = .ok (.aload_n 0, 1) := by decide +kernel
theorem dX6_firstImpossible_29 : decode cX6_firstImpossible 29 = .ok (.invokevirtual 39, 3) := by decide +kernel
theorem dX6_firstImpossible_32 : decode cX6_firstImpossible 32 = .ok (.istore 4, 2) := by decide +kernel
theorem dX6_firstImpossible_34 : decode cX6_firstImpossible 34 = .ok (.aload_n 0, 1) := by decide +kernel
theorem dX6_firstImpossible_35 : decode cX6_firstImpossible 35 = .ok (.invokevirtual 35, 3) := by decide +kernel
theorem dX6_firstImpossible_38 : decode cX6_firstImpossible 38 = .ok (.ifCond .eq 13, 3) := by decide +kernel
theorem dX6_firstImpossible_41 : decode cX6_firstImpossible 41 = .ok (.aload_n 0, 1) := by decide +kernel
theorem dX6_firstImpossible_42 : decode cX6_firstImpossible 42 = .ok (.iload 4, 2) := by decide +kernel
theorem dX6_firstImpossible_44 : decode cX6_firstImpossible 44 = .ok (.aload_n 1, 1) := by decide +kernel
theorem dX6_firstImpossible_45 : decode cX6_firstImpossible 45 = .ok (.invokevirtual 43, 3) := by decide +kernel
theorem dX6_firstImpossible_48 : decode cX6_firstImpossible 48 = .ok (.ifCond .ne 5, 3) := by decide +kernel
theorem dX6_firstImpossible_51 : decode cX6_firstImpossible 51 = .ok (.iload_n 3, 1) := by decide +kernel
theorem dX6_firstImpossible_52 : decode cX6_firstImpossible 52 = .ok (.ireturn, 1) := by decide +kernel
theorem dX6_firstImpossible_53 : decode cX6_firstImpossible 53 = .ok (.iinc 2 1, 3) := by decide +kernel
theorem dX6_firstImpossible_56 : decode cX6_firstImpossible 56 = .ok (.goto (-50), 3) := by decide +kernel
theorem dX6_firstImpossible_59 : decode cX6_firstImpossible 59 = .ok (.iconst (-1), 1) := by decide +kernel
theorem dX6_firstImpossible_60 : decode cX6_firstImpossible 60 = .ok (.ireturn, 1) := by decide +kernel
theorem dX6_begin_0 : decode cX6_begin 0 = .ok (.aload_n 0, 1) := by decide +kernel
theorem dX6_begin_1 : decode cX6_begin 1 = .ok (.iconst 0, 1) := by decide +kernel
theorem dX6_begin_2 : decode cX6_begin 2 = .ok (.putfield 19, 3) := by decide +kernel
theorem dX6_begin_5 : decode cX6_begin 5 = .ok (.aload_n 0, 1) := by decide +kernel
theorem dX6_begin_6 : decode cX6_begin 6 = .ok (.iconst 0, 1) := by decide +kernel
theorem dX6_begin_7 : decode cX6_begin 7 = .ok (.putfield 29, 3) := by decide +kernel
theorem dX6_begin_10 : decode cX6_begin 10 = .ok (.return_, 1) := by decide +kernel
theorem dX6_readStatement_0 : decode cX6_readStatement 0 = .ok (.aload_n 0, 1) := by decide +kernel
theorem dX6_readStatement_1 : decode cX6_readStatement 1 = .ok (.invokevirtual 39, 3) := by decide +kernel
theorem dX6_readStatement_4 : decode cX6_readStatement 4 = .ok (.invokestatic 47, 3) := by decide +kernel
theorem dX6_readStatement_7 : decode cX6_readStatement 7 = .ok (.astore_n 1, 1) := by decide +kernel
theorem dX6_readStatement_8 : decode cX6_readStatement 8 = .ok (.aload_n 0, 1) := by decide +kernel
theorem dX6_readStatement_9 : decode cX6_readStatement 9 = .ok (.iconst 0, 1) := by decide +kernel
theorem dX6_readStatement_10 : decode cX6_readStatement 10 = .ok (.putfield 23, 3) := by decide +kernel
theorem dX6_readStatement_13 : decode cX6_readStatement 13 = .ok (.iconst 0, 1) := by decide +kernel
theorem dX6_readStatement_14 : decode cX6_readStatement 14 = .ok (.istore_n 2, 1) := by decide +kernel
theorem dX6_readStatement_15 : decode cX6_readStatement 15 = .ok (.iload_n 2, 1) := by decide +kernel
theorem dX6_readStatement_16 : decode cX6_readStatement 16 = .ok (.aload_n 1, 1) := by decide +kernel
theorem dX6_readStatement_17 : decode cX6_readStatement 17 = .ok (.invokevirtual 51, 3) := by decide +kernel
theorem dX6_readStatement_20 : decode cX6_readStatement 20 = .ok (.if_icmp .ge 23, 3) := by decide +kernel
theorem dX6_readStatement_23 : decode cX6_readStatement 23 = .ok (.aload_n 0, 1) := by decide +kernel
theorem dX6_readStatement_24 : decode cX6_readStatement 24 = .ok (.aload_n 1, 1) := by decide +kernel
theorem dX6_readStatement_25 : decode cX6_readStatement 25 = .ok (.iload_n 2, 1) := by decide +kernel
theorem dX6_readStatement_26 : decode cX6_readStatement 26 = .ok (.invokevirtual 55, 3) := by decide +kernel
theorem dX6_readStatement_29 : decode cX6_readStatement 29 = .ok (.invokevirtual 59, 3) := by decide +kernel
theorem dX6_readStatement_32 : decode cX6_readStatement 32 = .ok (.ifCond .ne 5, 3) := by decide +kernel
theorem dX6_readStatement_35 : decode cX6_readStatement 35 = .ok (.iconst 0, 1) := by decide +kernel
theorem dX6_readStatement_36 : decode cX6_readStatement 36 = .ok (.ireturn, 1) := by decide +kernel
theorem dX6_readStatement_37 : decode cX6_readStatement 37 = .ok (.iinc 2 1, 3) := by decide +kernel
theorem dX6_readStatement_40 : decode cX6_readStatement 40 = .ok (.goto (-25), 3) := by decide +kernel
theorem dX6_readStatement_43 : decode cX6_readStatement 43 = .ok (.aload_n 0, 1) := by decide +kernel
theorem dX6_readStatement_44 : decode cX6_readStatement 44 = .ok (.dup, 1) := by decide +kernel
theorem dX6_readStatement_45 : decode cX6_readStatement 45 = .ok (.getfield 29, 3) := by decide +kernel
theorem dX6_readStatement_48 : decode cX6_readStatement 48 = .ok (.iconst 1, 1) := by decide +kernel
theorem dX6_readStatement_49 : decode cX6_readStatement 49 = .ok (.iadd, 1) := by decide +kernel
theorem dX6_readStatement_50 : decode cX6_readStatement 50 = .ok (.putfield 29, 3) := by decide +kernel
theorem dX6_readStatement_53 : decode cX6_readStatement 53 = .ok (.aload_n 1, 1) := by decide +kernel
theorem dX6_readStatement_54 : decode cX6_readStatement 54 = .ok (.invokevirtual 63, 3) := by decide +kernel
theorem dX6_readStatement_57 : decode cX6_readStatement 57 = .ok (.ifCond .ne 7, 3) := by decide +kernel
theorem dX6_readStatement_60 : decode cX6_readStatement 60 = .ok (.iconst 1, 1) := by decide +kernel
theorem dX6_readStatement_61 : decode cX6_readStatement 61 = .ok (.goto 4, 3) := by decide +kernel
theorem dX6_readStatement_64 : decode cX6_readStatement 64 = .ok (.iconst 0, 1) := by decide +kernel
theorem dX6_readStatement_65 : decode cX6_readStatement 65 = .ok (.ireturn, 1) := by decide +kernel
theorem dX6_shapeOf_0 : decode cX6_shapeOf 0 = .ok (.iload_n 0, 1) := by decide +kernel
theorem dX6_shapeOf_1 : decode cX6_shapeOf 1 = .ok (.lookupswitch 66 #[(99, 54), (102, 63), (110, 51), (112, 60), (119, 57)], 51) := by decide +kernel
theorem dX6_shapeOf_52 : decode cX6_shapeOf 52 = .ok (.ldc 66, 2) := by decide +kernel
theorem dX6_shapeOf_54 : decode cX6_shapeOf 54 = .ok (.areturn, 1) := by decide +kernel
theorem dX6_shapeOf_55 : decode cX6_shapeOf 55 = .ok (.ldc 68, 2) := by decide +kernel
theorem dX6_shapeOf_57 : decode cX6_shapeOf 57 = .ok (.areturn, 1) := by decide +kernel
theorem dX6_shapeOf_58 : decode cX6_shapeOf 58 = .ok (.ldc 70, 2) := by decide +kernel
theorem dX6_shapeOf_60 : decode cX6_shapeOf 60 = .ok (.areturn, 1) := by decide +kernel
theorem dX6_shapeOf_61 : decode cX6_shapeOf 61 = .ok (.ldc 72, 2) := by decide +kernel
theorem dX6_shapeOf_63 : decode cX6_shapeOf 63 = .ok (.areturn, 1) := by decide +kernel
theorem dX6_shapeOf_64 : decode cX6_shapeOf 64 = .ok (.ldc 74, 2) := by decide +kernel
theorem dX6_shapeOf_66 : decode cX6_shapeOf 66 = .ok (.areturn, 1) := by decide +kernel
theorem dX6_shapeOf_67 : decode cX6_shapeOf 67 = .ok (.ldc 76, 2) := by decide +kernel
theorem dX6_shapeOf_69 : decode cX6_shapeOf 69 = .ok (.areturn, 1) := by decide +kernel
theorem dX6_readPart_0 : decode cX6_readPart 0 = .ok (.iload_n 1, 1) := by decide +kernel
theorem dX6_readPart_1 : decode cX6_readPart 1 = .ok (.bipush 35, 2) := by decide +kernel
theorem dX6_readPart_3 : decode cX6_readPart 3 = .ok (.if_icmp .ne 9, 3) := by decide +kernel
theorem dX6_readPart_6 : decode cX6_readPart 6 = .ok (.aload_n 0, 1) := by decide +kernel
theorem dX6_readPart_7 : decode cX6_readPart 7 = .ok (.iconst 3, 1) := by decide +kernel
theorem dX6_readPart_8 : decode cX6_readPart 8 = .ok (.invokevirtual 78, 3) := by decide +kernel
theorem dX6_readPart_11 : decode cX6_readPart 11 = .ok (.ireturn, 1) := by decide +kernel
theorem dX6_readPart_12 : decode cX6_readPart 12 = .ok (.iload_n 1, 1) := by decide +kernel
theorem dX6_readPart_13 : decode cX6_readPart 13 = .ok (.bipush 100, 2) := by decide +kernel
theorem dX6_readPart_15 : decode cX6_readPart 15 = .ok (.if_icmp .ne 9, 3) := by decide +kernel
theorem dX6_readPart_18 : decode cX6_readPart 18 = .ok (.aload_n 0, 1) := by decide +kernel
theorem dX6_readPart_19 : decode cX6_readPart 19 = .ok (.iconst 1, 1) := by decide +kernel
theorem dX6_readPart_20 : decode cX6_readPart 20 = .ok (.invokevirtual 78, 3) := by decide +kernel
theorem dX6_readPart_23 : decode cX6_readPart 23 = .ok (.ireturn, 1) := by decide +kernel
theorem dX6_readPart_24 : decode cX6_readPart 24 = .ok (.aload_n 0, 1) := by decide +kernel
theorem dX6_readPart_25 : decode cX6_readPart 25 = .ok (.invokevirtual 39, 3) := by decide +kernel
theorem dX6_readPart_28 : decode cX6_readPart 28 = .ok (.iload_n 1, 1) := by decide +kernel
theorem dX6_readPart_29 : decode cX6_readPart 29 = .ok (.if_icmp .eq 5, 3) := by decide +kernel
theorem dX6_readPart_32 : decode cX6_readPart 32 = .ok (.iconst 0, 1) := by decide +kernel
theorem dX6_readPart_33 : decode cX6_readPart 33 = .ok (.ireturn, 1) := by decide +kernel
theorem dX6_readPart_34 : decode cX6_readPart 34 = .ok (.aload_n 0, 1) := by decide +kernel
theorem dX6_readPart_35 : decode cX6_readPart 35 = .ok (.dup, 1) := by decide +kernel
theorem dX6_readPart_36 : decode cX6_readPart 36 = .ok (.getfield 19, 3) := by decide +kernel
theorem dX6_readPart_39 : decode cX6_readPart 39 = .ok (.iconst 1, 1) := by decide +kernel
theorem dX6_readPart_40 : decode cX6_readPart 40 = .ok (.iadd, 1) := by decide +kernel
theorem dX6_readPart_41 : decode cX6_readPart 41 = .ok (.putfield 19, 3) := by decide +kernel
theorem dX6_readPart_44 : decode cX6_readPart 44 = .ok (.iconst 1, 1) := by decide +kernel
theorem dX6_readPart_45 : decode cX6_readPart 45 = .ok (.ireturn, 1) := by decide +kernel
theorem dX6_readDigits_0 : decode cX6_readDigits 0 = .ok (.iconst 0, 1) := by decide +kernel
theorem dX6_readDigits_1 : decode cX6_readDigits 1 = .ok (.istore_n 2, 1) := by decide +kernel
theorem dX6_readDigits_2 : decode cX6_readDigits 2 = .ok (.iconst 0, 1) := by decide +kernel
theorem dX6_readDigits_3 : decode cX6_readDigits 3 = .ok (.istore_n 3, 1) := by decide +kernel
theorem dX6_readDigits_4 : decode cX6_readDigits 4 = .ok (.iload_n 3, 1) := by decide +kernel
theorem dX6_readDigits_5 : decode cX6_readDigits 5 = .ok (.iload_n 1, 1) := by decide +kernel
theorem dX6_readDigits_6 : decode cX6_readDigits 6 = .ok (.if_icmp .ge 50, 3) := by decide +kernel
theorem dX6_readDigits_9 : decode cX6_readDigits 9 = .ok (.aload_n 0, 1) := by decide +kernel
theorem dX6_readDigits_10 : decode cX6_readDigits 10 = .ok (.invokevirtual 39, 3) := by decide +kernel
theorem dX6_readDigits_13 : decode cX6_readDigits 13 = .ok (.invokestatic 82, 3) := by decide +kernel
theorem dX6_readDigits_16 : decode cX6_readDigits 16 = .ok (.ifCond .eq 40, 3) := by decide +kernel
theorem dX6_readDigits_19 : decode cX6_readDigits 19 = .ok (.iload_n 3, 1) := by decide +kernel
theorem dX6_readDigits_20 : decode cX6_readDigits 20 = .ok (.ifCond .eq 7, 3) := by decide +kernel
theorem dX6_readDigits_23 : decode cX6_readDigits 23 = .ok (.iload_n 2, 1) := by decide +kernel
theorem dX6_readDigits_24 : decode cX6_readDigits 24 = .ok (.ifCond .le 32, 3) := by decide +kernel
theorem dX6_readDigits_27 : decode cX6_readDigits 27 = .ok (.iload_n 2, 1) := by decide +kernel
theorem dX6_readDigits_28 : decode cX6_readDigits 28 = .ok (.bipush 10, 2) := by decide +kernel
theorem dX6_readDigits_30 : decode cX6_readDigits 30 = .ok (.imul, 1) := by decide +kernel
theorem dX6_readDigits_31 : decode cX6_readDigits 31 = .ok (.aload_n 0, 1) := by decide +kernel
theorem dX6_readDigits_32 : decode cX6_readDigits 32 = .ok (.invokevirtual 39, 3) := by decide +kernel
theorem dX6_readDigits_35 : decode cX6_readDigits 35 = .ok (.iadd, 1) := by decide +kernel
theorem dX6_readDigits_36 : decode cX6_readDigits 36 = .ok (.bipush 48, 2) := by decide +kernel
theorem dX6_readDigits_38 : decode cX6_readDigits 38 = .ok (.isub, 1) := by decide +kernel
theorem dX6_readDigits_39 : decode cX6_readDigits 39 = .ok (.istore_n 2, 1) := by decide +kernel
theorem dX6_readDigits_40 : decode cX6_readDigits 40 = .ok (.iinc 3 1, 3) := by decide +kernel
theorem dX6_readDigits_43 : decode cX6_readDigits 43 = .ok (.aload_n 0, 1) := by decide +kernel
theorem dX6_readDigits_44 : decode cX6_readDigits 44 = .ok (.dup, 1) := by decide +kernel
theorem dX6_readDigits_45 : decode cX6_readDigits 45 = .ok (.getfield 19, 3) := by decide +kernel
theorem dX6_readDigits_48 : decode cX6_readDigits 48 = .ok (.iconst 1, 1) := by decide +kernel
theorem dX6_readDigits_49 : decode cX6_readDigits 49 = .ok (.iadd, 1) := by decide +kernel
theorem dX6_readDigits_50 : decode cX6_readDigits 50 = .ok (.putfield 19, 3) := by decide +kernel
theorem dX6_readDigits_53 : decode cX6_readDigits 53 = .ok (.goto (-49), 3) := by decide +kernel
theorem dX6_readDigits_56 : decode cX6_readDigits 56 = .ok (.aload_n 0, 1) := by decide +kernel
theorem dX6_readDigits_57 : decode cX6_readDigits 57 = .ok (.getfield 23, 3) := by decide +kernel
theorem dX6_readDigits_60 : decode cX6_readDigits 60 = .ok (.aload_n 0, 1) := by decide +kernel
theorem dX6_readDigits_61 : decode cX6_readDigits 61 = .ok (.getfield 15, 3) := by decide +kernel
theorem dX6_readDigits_64 : decode cX6_readDigits 64 = .ok (.arraylength, 1) := by decide +kernel
theorem dX6_readDigits_65 : decode cX6_readDigits 65 = .ok (.if_icmp .ge 23, 3) := by decide +kernel
theorem dX6_readDigits_68 : decode cX6_readDigits 68 = .ok (.aload_n 0, 1) := by decide +kernel
theorem dX6_readDigits_69 : decode cX6_readDigits 69 = .ok (.getfield 15, 3) := by decide +kernel
theorem dX6_readDigits_72 : decode cX6_readDigits 72 = .ok (.aload_n 0, 1) := by decide +kernel
theorem dX6_readDigits_73 : decode cX6_readDigits 73 = .ok (.getfield 23, 3) := by decide +kernel
theorem dX6_readDigits_76 : decode cX6_readDigits 76 = .ok (.iload_n 2, 1) := by decide +kernel
theorem dX6_readDigits_77 : decode cX6_readDigits 77 = .ok (.iastore, 1) := by decide +kernel
theorem dX6_readDigits_78 : decode cX6_readDigits 78 = .ok (.aload_n 0, 1) := by decide +kernel
theorem dX6_readDigits_79 : decode cX6_readDigits 79 = .ok (.dup, 1) := by decide +kernel
theorem dX6_readDigits_80 : decode cX6_readDigits 80 = .ok (.getfield 23, 3) := by decide +kernel
theorem dX6_readDigits_83 : decode cX6_readDigits 83 = .ok (.iconst 1, 1) := by decide +kernel
theorem dX6_readDigits_84 : decode cX6_readDigits 84 = .ok (.iadd, 1) := by decide +kernel
theorem dX6_readDigits_85 : decode cX6_readDigits 85 = .ok (.putfield 23, 3) := by decide +kernel
theorem dX6_readDigits_88 : decode cX6_readDigits 88 = .ok (.iload_n 3, 1) := by decide +kernel
theorem dX6_readDigits_89 : decode cX6_readDigits 89 = .ok (.ifCond .le 7, 3) := by decide +kernel
theorem dX6_readDigits_92 : decode cX6_readDigits 92 = .ok (.iconst 1, 1) := by decide +kernel
theorem dX6_readDigits_93 : decode cX6_readDigits 93 = .ok (.goto 4, 3) := by decide +kernel
theorem dX6_readDigits_96 : decode cX6_readDigits 96 = .ok (.iconst 0, 1) := by decide +kernel
theorem dX6_readDigits_97 : decode cX6_readDigits 97 = .ok (.ireturn, 1) := by decide +kernel
theorem dX6_signAhead_0 : decode cX6_signAhead 0 = .ok (.aload_n 0, 1) := by decide +kernel
theorem dX6_signAhead_1 : decode cX6_signAhead 1 = .ok (.getfield 19, 3) := by decide +kernel
theorem dX6_signAhead_4 : decode cX6_signAhead 4 = .ok (.ifCond .lt 39, 3) := by decide +kernel
theorem dX6_signAhead_7 : decode cX6_signAhead 7 = .ok (.aload_n 0, 1) := by decide +kernel
theorem dX6_signAhead_8 : decode cX6_signAhead 8 = .ok (.getfield 19, 3) := by decide +kernel
theorem dX6_signAhead_11 : decode cX6_signAhead 11 = .ok (.aload_n 0, 1) := by decide +kernel
theorem dX6_signAhead_12 : decode cX6_signAhead 12 = .ok (.getfield 26, 3) := by decide +kernel
theorem dX6_signAhead_15 : decode cX6_signAhead 15 = .ok (.if_icmp .ge 28, 3) := by decide +kernel
theorem dX6_signAhead_18 : decode cX6_signAhead 18 = .ok (.aload_n 0, 1) := by decide +kernel
theorem dX6_signAhead_19 : decode cX6_signAhead 19 = .ok (.getfield 19, 3) := by decide +kernel
theorem dX6_signAhead_22 : decode cX6_signAhead 22 = .ok (.bipush 64, 2) := by decide +kernel
theorem dX6_signAhead_24 : decode cX6_signAhead 24 = .ok (.if_icmp .ge 19, 3) := by decide +kernel
theorem dX6_signAhead_27 : decode cX6_signAhead 27 = .ok (.aload_n 0, 1) := by decide +kernel
theorem dX6_signAhead_28 : decode cX6_signAhead 28 = .ok (.getfield 9, 3) := by decide +kernel
theorem dX6_signAhead_31 : decode cX6_signAhead 31 = .ok (.aload_n 0, 1) := by decide +kernel
theorem dX6_signAhead_32 : decode cX6_signAhead 32 = .ok (.getfield 19, 3) := by decide +kernel
theorem dX6_signAhead_35 : decode cX6_signAhead 35 = .ok (.baload, 1) := by decide +kernel
theorem dX6_signAhead_36 : decode cX6_signAhead 36 = .ok (.sipush 255, 3) := by decide +kernel
theorem dX6_signAhead_39 : decode cX6_signAhead 39 = .ok (.iand, 1) := by decide +kernel
theorem dX6_signAhead_40 : decode cX6_signAhead 40 = .ok (.goto 4, 3) := by decide +kernel
theorem dX6_signAhead_43 : decode cX6_signAhead 43 = .ok (.iconst (-1), 1) := by decide +kernel
theorem dX6_signAhead_44 : decode cX6_signAhead 44 = .ok (.ireturn, 1) := by decide +kernel
theorem dX6_isDigit_0 : decode cX6_isDigit 0 = .ok (.iload_n 0, 1) := by decide +kernel
theorem dX6_isDigit_1 : decode cX6_isDigit 1 = .ok (.bipush 48, 2) := by decide +kernel
theorem dX6_isDigit_3 : decode cX6_isDigit 3 = .ok (.if_icmp .lt 13, 3) := by decide +kernel
theorem dX6_isDigit_6 : decode cX6_isDigit 6 = .ok (.iload_n 0, 1) := by decide +kernel
theorem dX6_isDigit_7 : decode cX6_isDigit 7 = .ok (.bipush 57, 2) := by decide +kernel
theorem dX6_isDigit_9 : decode cX6_isDigit 9 = .ok (.if_icmp .gt 7, 3) := by decide +kernel
theorem dX6_isDigit_12 : decode cX6_isDigit 12 = .ok (.iconst 1, 1) := by decide +kernel
theorem dX6_isDigit_13 : decode cX6_isDigit 13 = .ok (.goto 4, 3) := by decide +kernel
theorem dX6_isDigit_16 : decode cX6_isDigit 16 = .ok (.iconst 0, 1) := by decide +kernel
theorem dX6_isDigit_17 : decode cX6_isDigit 17 = .ok (.ireturn, 1) := by decide +kernel
theorem dX6_comesTrue_0 : decode cX6_comesTrue 0 = .ok (.iload_n 1, 1) := by decide +kernel
theorem dX6_comesTrue_1 : decode cX6_comesTrue 1 = .ok (.lookupswitch 67 #[(99, 49), (110, 43), (112, 61), (119, 55)], 43) := by decide +kernel
theorem dX6_comesTrue_44 : decode cX6_comesTrue 44 = .ok (.aload_n 0, 1) := by decide +kernel
theorem dX6_comesTrue_45 : decode cX6_comesTrue 45 = .ok (.aload_n 2, 1) := by decide +kernel
theorem dX6_comesTrue_46 : decode cX6_comesTrue 46 = .ok (.invokevirtual 85, 3) := by decide +kernel
theorem dX6_comesTrue_49 : decode cX6_comesTrue 49 = .ok (.ireturn, 1) := by decide +kernel
theorem dX6_comesTrue_50 : decode cX6_comesTrue 50 = .ok (.aload_n 0, 1) := by decide +kernel
theorem dX6_comesTrue_51 : decode cX6_comesTrue 51 = .ok (.aload_n 2, 1) := by decide +kernel
theorem dX6_comesTrue_52 : decode cX6_comesTrue 52 = .ok (.invokevirtual 89, 3) := by decide +kernel
theorem dX6_comesTrue_55 : decode cX6_comesTrue 55 = .ok (.ireturn, 1) := by decide +kernel
theorem dX6_comesTrue_56 : decode cX6_comesTrue 56 = .ok (.aload_n 0, 1) := by decide +kernel
theorem dX6_comesTrue_57 : decode cX6_comesTrue 57 = .ok (.aload_n 2, 1) := by decide +kernel
theorem dX6_comesTrue_58 : decode cX6_comesTrue 58 = .ok (.invokevirtual 92, 3) := by decide +kernel
theorem dX6_comesTrue_61 : decode cX6_comesTrue 61 = .ok (.ireturn, 1) := by decide +kernel
theorem dX6_comesTrue_62 : decode cX6_comesTrue 62 = .ok (.aload_n 0, 1) := by decide +kernel
theorem dX6_comesTrue_63 : decode cX6_comesTrue 63 = .ok (.aload_n 2, 1) := by decide +kernel
theorem dX6_comesTrue_64 : decode cX6_comesTrue 64 = .ok (.invokevirtual 95, 3) := by decide +kernel
theorem dX6_comesTrue_67 : decode cX6_comesTrue 67 = .ok (.ireturn, 1) := by decide +kernel
theorem dX6_comesTrue_68 : decode cX6_comesTrue 68 = .ok (.aload_n 0, 1) := by decide +kernel
theorem dX6_comesTrue_69 : decode cX6_comesTrue 69 = .ok (.aload_n 2, 1) := by decide +kernel
theorem dX6_comesTrue_70 : decode cX6_comesTrue 70 = .ok (.invokevirtual 98, 3) := by decide +kernel
theorem dX6_comesTrue_73 : decode cX6_comesTrue 73 = .ok (.ireturn, 1) := by decide +kernel
theorem dX6_resize_0 : decode cX6_resize 0 = .ok (.aload_n 0, 1) := by decide +kernel
theorem dX6_resize_1 : decode cX6_resize 1 = .ok (.getfield 15, 3) := by decide +kernel
theorem dX6_resize_4 : decode cX6_resize 4 = .ok (.iconst 0, 1) := by decide +kernel
theorem dX6_resize_5 : decode cX6_resize 5 = .ok (.iaload, 1) := by decide +kernel
theorem dX6_resize_6 : decode cX6_resize 6 = .ok (.iconst 4, 1) := by decide +kernel
theorem dX6_resize_7 : decode cX6_resize 7 = .ok (.bipush 60, 2) := by decide +kernel
theorem dX6_resize_9 : decode cX6_resize 9 = .ok (.invokestatic 101, 3) := by decide +kernel
theorem dX6_resize_12 : decode cX6_resize 12 = .ok (.ifCond .ne 24, 3) := by decide +kernel
theorem dX6_resize_15 : decode cX6_resize 15 = .ok (.aload_n 1, 1) := by decide +kernel
theorem dX6_resize_16 : decode cX6_resize 16 = .ok (.getfield 105, 3) := by decide +kernel
theorem dX6_resize_19 : decode cX6_resize 19 = .ok (.getfield 111, 3) := by decide +kernel
theorem dX6_resize_22 : decode cX6_resize 22 = .ok (.ifCond .ne 14, 3) := by decide +kernel
theorem dX6_resize_25 : decode cX6_resize 25 = .ok (.aload_n 1, 1) := by decide +kernel
theorem dX6_resize_26 : decode cX6_resize 26 = .ok (.getfield 116, 3) := by decide +kernel
theorem dX6_resize_29 : decode cX6_resize 29 = .ok (.ifCond .ne 7, 3) := by decide +kernel
theorem dX6_resize_32 : decode cX6_resize 32 = .ok (.iconst 1, 1) := by decide +kernel
theorem dX6_resize_33 : decode cX6_resize 33 = .ok (.goto 4, 3) := by decide +kernel
theorem dX6_resize_36 : decode cX6_resize 36 = .ok (.iconst 0, 1) := by decide +kernel
theorem dX6_resize_37 : decode cX6_resize 37 = .ok (.istore_n 2, 1) := by decide +kernel
theorem dX6_resize_38 : decode cX6_resize 38 = .ok (.iload_n 2, 1) := by decide +kernel
theorem dX6_resize_39 : decode cX6_resize 39 = .ok (.ifCond .eq 16, 3) := by decide +kernel
theorem dX6_resize_42 : decode cX6_resize 42 = .ok (.aload_n 1, 1) := by decide +kernel
theorem dX6_resize_43 : decode cX6_resize 43 = .ok (.getfield 105, 3) := by decide +kernel
theorem dX6_resize_46 : decode cX6_resize 46 = .ok (.aload_n 0, 1) := by decide +kernel
theorem dX6_resize_47 : decode cX6_resize 47 = .ok (.getfield 15, 3) := by decide +kernel
theorem dX6_resize_50 : decode cX6_resize 50 = .ok (.iconst 0, 1) := by decide +kernel
theorem dX6_resize_51 : decode cX6_resize 51 = .ok (.iaload, 1) := by decide +kernel
theorem dX6_resize_52 : decode cX6_resize 52 = .ok (.putfield 119, 3) := by decide +kernel
theorem dX6_resize_55 : decode cX6_resize 55 = .ok (.iload_n 2, 1) := by decide +kernel
theorem dX6_resize_56 : decode cX6_resize 56 = .ok (.ireturn, 1) := by decide +kernel
theorem dX6_seatMore_0 : decode cX6_seatMore 0 = .ok (.aload_n 1, 1) := by decide +kernel
theorem dX6_seatMore_1 : decode cX6_seatMore 1 = .ok (.aload_n 0, 1) := by decide +kernel
theorem dX6_seatMore_2 : decode cX6_seatMore 2 = .ok (.getfield 15, 3) := by decide +kernel
theorem dX6_seatMore_5 : decode cX6_seatMore 5 = .ok (.iconst 0, 1) := by decide +kernel
theorem dX6_seatMore_6 : decode cX6_seatMore 6 = .ok (.iaload, 1) := by decide +kernel
theorem dX6_seatMore_7 : decode cX6_seatMore 7 = .ok (.invokevirtual 122, 3) := by decide +kernel
theorem dX6_seatMore_10 : decode cX6_seatMore 10 = .ok (.ifCond .ne 7, 3) := by decide +kernel
theorem dX6_seatMore_13 : decode cX6_seatMore 13 = .ok (.iconst 1, 1) := by decide +kernel
theorem dX6_seatMore_14 : decode cX6_seatMore 14 = .ok (.goto 4, 3) := by decide +kernel
theorem dX6_seatMore_17 : decode cX6_seatMore 17 = .ok (.iconst 0, 1) := by decide +kernel
theorem dX6_seatMore_18 : decode cX6_seatMore 18 = .ok (.istore_n 2, 1) := by decide +kernel
theorem dX6_seatMore_19 : decode cX6_seatMore 19 = .ok (.iload_n 2, 1) := by decide +kernel
theorem dX6_seatMore_20 : decode cX6_seatMore 20 = .ok (.ifCond .eq 14, 3) := by decide +kernel
theorem dX6_seatMore_23 : decode cX6_seatMore 23 = .ok (.aload_n 1, 1) := by decide +kernel
theorem dX6_seatMore_24 : decode cX6_seatMore 24 = .ok (.aload_n 0, 1) := by decide +kernel
theorem dX6_seatMore_25 : decode cX6_seatMore 25 = .ok (.getfield 15, 3) := by decide +kernel
theorem dX6_seatMore_28 : decode cX6_seatMore 28 = .ok (.iconst 0, 1) := by decide +kernel
theorem dX6_seatMore_29 : decode cX6_seatMore 29 = .ok (.iaload, 1) := by decide +kernel
theorem dX6_seatMore_30 : decode cX6_seatMore 30 = .ok (.invokevirtual 126, 3) := by decide +kernel
theorem dX6_seatMore_33 : decode cX6_seatMore 33 = .ok (.pop, 1) := by decide +kernel
theorem dX6_seatMore_34 : decode cX6_seatMore 34 = .ok (.iload_n 2, 1) := by decide +kernel
theorem dX6_seatMore_35 : decode cX6_seatMore 35 = .ok (.ireturn, 1) := by decide +kernel
theorem dX6_walkerMore_0 : decode cX6_walkerMore 0 = .ok (.aload_n 1, 1) := by decide +kernel
theorem dX6_walkerMore_1 : decode cX6_walkerMore 1 = .ok (.aload_n 0, 1) := by decide +kernel
theorem dX6_walkerMore_2 : decode cX6_walkerMore 2 = .ok (.getfield 15, 3) := by decide +kernel
theorem dX6_walkerMore_5 : decode cX6_walkerMore 5 = .ok (.iconst 0, 1) := by decide +kernel
theorem dX6_walkerMore_6 : decode cX6_walkerMore 6 = .ok (.iaload, 1) := by decide +kernel
theorem dX6_walkerMore_7 : decode cX6_walkerMore 7 = .ok (.aload_n 0, 1) := by decide +kernel
theorem dX6_walkerMore_8 : decode cX6_walkerMore 8 = .ok (.getfield 15, 3) := by decide +kernel
theorem dX6_walkerMore_11 : decode cX6_walkerMore 11 = .ok (.iconst 1, 1) := by decide +kernel
theorem dX6_walkerMore_12 : decode cX6_walkerMore 12 = .ok (.iaload, 1) := by decide +kernel
theorem dX6_walkerMore_13 : decode cX6_walkerMore 13 = .ok (.aload_n 0, 1) := by decide +kernel
theorem dX6_walkerMore_14 : decode cX6_walkerMore 14 = .ok (.getfield 15, 3) := by decide +kernel
theorem dX6_walkerMore_17 : decode cX6_walkerMore 17 = .ok (.iconst 2, 1) := by decide +kernel
theorem dX6_walkerMore_18 : decode cX6_walkerMore 18 = .ok (.iaload, 1) := by decide +kernel
theorem dX6_walkerMore_19 : decode cX6_walkerMore 19 = .ok (.invokevirtual 129, 3) := by decide +kernel
theorem dX6_walkerMore_22 : decode cX6_walkerMore 22 = .ok (.ifCond .ne 7, 3) := by decide +kernel
theorem dX6_walkerMore_25 : decode cX6_walkerMore 25 = .ok (.iconst 1, 1) := by decide +kernel
theorem dX6_walkerMore_26 : decode cX6_walkerMore 26 = .ok (.goto 4, 3) := by decide +kernel
theorem dX6_walkerMore_29 : decode cX6_walkerMore 29 = .ok (.iconst 0, 1) := by decide +kernel
theorem dX6_walkerMore_30 : decode cX6_walkerMore 30 = .ok (.istore_n 2, 1) := by decide +kernel
theorem dX6_walkerMore_31 : decode cX6_walkerMore 31 = .ok (.iload_n 2, 1) := by decide +kernel
theorem dX6_walkerMore_32 : decode cX6_walkerMore 32 = .ok (.ifCond .eq 26, 3) := by decide +kernel
theorem dX6_walkerMore_35 : decode cX6_walkerMore 35 = .ok (.aload_n 1, 1) := by decide +kernel
theorem dX6_walkerMore_36 : decode cX6_walkerMore 36 = .ok (.aload_n 0, 1) := by decide +kernel
theorem dX6_walkerMore_37 : decode cX6_walkerMore 37 = .ok (.getfield 15, 3) := by decide +kernel
theorem dX6_walkerMore_40 : decode cX6_walkerMore 40 = .ok (.iconst 0, 1) := by decide +kernel
theorem dX6_walkerMore_41 : decode cX6_walkerMore 41 = .ok (.iaload, 1) := by decide +kernel
theorem dX6_walkerMore_42 : decode cX6_walkerMore 42 = .ok (.aload_n 0, 1) := by decide +kernel
theorem dX6_walkerMore_43 : decode cX6_walkerMore 43 = .ok (.getfield 15, 3) := by decide +kernel
theorem dX6_walkerMore_46 : decode cX6_walkerMore 46 = .ok (.iconst 1, 1) := by decide +kernel
theorem dX6_walkerMore_47 : decode cX6_walkerMore 47 = .ok (.iaload, 1) := by decide +kernel
theorem dX6_walkerMore_48 : decode cX6_walkerMore 48 = .ok (.aload_n 0, 1) := by decide +kernel
theorem dX6_walkerMore_49 : decode cX6_walkerMore 49 = .ok (.getfield 15, 3) := by decide +kernel
theorem dX6_walkerMore_52 : decode cX6_walkerMore 52 = .ok (.iconst 2, 1) := by decide +kernel
theorem dX6_walkerMore_53 : decode cX6_walkerMore 53 = .ok (.iaload, 1) := by decide +kernel
theorem dX6_walkerMore_54 : decode cX6_walkerMore 54 = .ok (.invokevirtual 132, 3) := by decide +kernel
theorem dX6_walkerMore_57 : decode cX6_walkerMore 57 = .ok (.pop, 1) := by decide +kernel
theorem dX6_walkerMore_58 : decode cX6_walkerMore 58 = .ok (.iload_n 2, 1) := by decide +kernel
theorem dX6_walkerMore_59 : decode cX6_walkerMore 59 = .ok (.ireturn, 1) := by decide +kernel
theorem dX6_newPlayer_0 : decode cX6_newPlayer 0 = .ok (.aload_n 1, 1) := by decide +kernel
theorem dX6_newPlayer_1 : decode cX6_newPlayer 1 = .ok (.getfield 135, 3) := by decide +kernel
theorem dX6_newPlayer_4 : decode cX6_newPlayer 4 = .ok (.aload_n 0, 1) := by decide +kernel
theorem dX6_newPlayer_5 : decode cX6_newPlayer 5 = .ok (.getfield 15, 3) := by decide +kernel
theorem dX6_newPlayer_8 : decode cX6_newPlayer 8 = .ok (.iconst 0, 1) := by decide +kernel
theorem dX6_newPlayer_9 : decode cX6_newPlayer 9 = .ok (.iaload, 1) := by decide +kernel
theorem dX6_newPlayer_10 : decode cX6_newPlayer 10 = .ok (.aload_n 0, 1) := by decide +kernel
theorem dX6_newPlayer_11 : decode cX6_newPlayer 11 = .ok (.getfield 15, 3) := by decide +kernel
theorem dX6_newPlayer_14 : decode cX6_newPlayer 14 = .ok (.iconst 1, 1) := by decide +kernel
theorem dX6_newPlayer_15 : decode cX6_newPlayer 15 = .ok (.iaload, 1) := by decide +kernel
theorem dX6_newPlayer_16 : decode cX6_newPlayer 16 = .ok (.invokevirtual 139, 3) := by decide +kernel
theorem dX6_newPlayer_19 : decode cX6_newPlayer 19 = .ok (.ifCond .ne 7, 3) := by decide +kernel
theorem dX6_newPlayer_22 : decode cX6_newPlayer 22 = .ok (.iconst 1, 1) := by decide +kernel
theorem dX6_newPlayer_23 : decode cX6_newPlayer 23 = .ok (.goto 4, 3) := by decide +kernel
theorem dX6_newPlayer_26 : decode cX6_newPlayer 26 = .ok (.iconst 0, 1) := by decide +kernel
theorem dX6_newPlayer_27 : decode cX6_newPlayer 27 = .ok (.istore_n 2, 1) := by decide +kernel
theorem dX6_newPlayer_28 : decode cX6_newPlayer 28 = .ok (.iload_n 2, 1) := by decide +kernel
theorem dX6_newPlayer_29 : decode cX6_newPlayer 29 = .ok (.ifCond .eq 29, 3) := by decide +kernel
theorem dX6_newPlayer_32 : decode cX6_newPlayer 32 = .ok (.aload_n 1, 1) := by decide +kernel
theorem dX6_newPlayer_33 : decode cX6_newPlayer 33 = .ok (.getfield 135, 3) := by decide +kernel
theorem dX6_newPlayer_36 : decode cX6_newPlayer 36 = .ok (.aload_n 0, 1) := by decide +kernel
theorem dX6_newPlayer_37 : decode cX6_newPlayer 37 = .ok (.getfield 15, 3) := by decide +kernel
theorem dX6_newPlayer_40 : decode cX6_newPlayer 40 = .ok (.iconst 0, 1) := by decide +kernel
theorem dX6_newPlayer_41 : decode cX6_newPlayer 41 = .ok (.iaload, 1) := by decide +kernel
theorem dX6_newPlayer_42 : decode cX6_newPlayer 42 = .ok (.putfield 145, 3) := by decide +kernel
theorem dX6_newPlayer_45 : decode cX6_newPlayer 45 = .ok (.aload_n 1, 1) := by decide +kernel
theorem dX6_newPlayer_46 : decode cX6_newPlayer 46 = .ok (.getfield 135, 3) := by decide +kernel
theorem dX6_newPlayer_49 : decode cX6_newPlayer 49 = .ok (.aload_n 0, 1) := by decide +kernel
theorem dX6_newPlayer_50 : decode cX6_newPlayer 50 = .ok (.getfield 15, 3) := by decide +kernel
theorem dX6_newPlayer_53 : decode cX6_newPlayer 53 = .ok (.iconst 1, 1) := by decide +kernel
theorem dX6_newPlayer_54 : decode cX6_newPlayer 54 = .ok (.iaload, 1) := by decide +kernel
theorem dX6_newPlayer_55 : decode cX6_newPlayer 55 = .ok (.putfield 148, 3) := by decide +kernel
theorem dX6_newPlayer_58 : decode cX6_newPlayer 58 = .ok (.iload_n 2, 1) := by decide +kernel
theorem dX6_newPlayer_59 : decode cX6_newPlayer 59 = .ok (.ireturn, 1) := by decide +kernel
theorem dX6_newForm_0 : decode cX6_newForm 0 = .ok (.aload_n 0, 1) := by decide +kernel
theorem dX6_newForm_1 : decode cX6_newForm 1 = .ok (.getfield 15, 3) := by decide +kernel
theorem dX6_newForm_4 : decode cX6_newForm 4 = .ok (.iconst 0, 1) := by decide +kernel
theorem dX6_newForm_5 : decode cX6_newForm 5 = .ok (.iaload, 1) := by decide +kernel
theorem dX6_newForm_6 : decode cX6_newForm 6 = .ok (.iconst 0, 1) := by decide +kernel
theorem dX6_newForm_7 : decode cX6_newForm 7 = .ok (.iconst 2, 1) := by decide +kernel
theorem dX6_newForm_8 : decode cX6_newForm 8 = .ok (.invokestatic 101, 3) := by decide +kernel
theorem dX6_newForm_11 : decode cX6_newForm 11 = .ok (.ifCond .ne 7, 3) := by decide +kernel
theorem dX6_newForm_14 : decode cX6_newForm 14 = .ok (.iconst 1, 1) := by decide +kernel
theorem dX6_newForm_15 : decode cX6_newForm 15 = .ok (.goto 4, 3) := by decide +kernel
theorem dX6_newForm_18 : decode cX6_newForm 18 = .ok (.iconst 0, 1) := by decide +kernel
theorem dX6_newForm_19 : decode cX6_newForm 19 = .ok (.istore_n 2, 1) := by decide +kernel
theorem dX6_newForm_20 : decode cX6_newForm 20 = .ok (.iload_n 2, 1) := by decide +kernel
theorem dX6_newForm_21 : decode cX6_newForm 21 = .ok (.ifCond .eq 13, 3) := by decide +kernel
theorem dX6_newForm_24 : decode cX6_newForm 24 = .ok (.aload_n 1, 1) := by decide +kernel
theorem dX6_newForm_25 : decode cX6_newForm 25 = .ok (.aload_n 0, 1) := by decide +kernel
theorem dX6_newForm_26 : decode cX6_newForm 26 = .ok (.getfield 15, 3) := by decide +kernel
theorem dX6_newForm_29 : decode cX6_newForm 29 = .ok (.iconst 0, 1) := by decide +kernel
theorem dX6_newForm_30 : decode cX6_newForm 30 = .ok (.iaload, 1) := by decide +kernel
theorem dX6_newForm_31 : decode cX6_newForm 31 = .ok (.putfield 151, 3) := by decide +kernel
theorem dX6_newForm_34 : decode cX6_newForm 34 = .ok (.iload_n 2, 1) := by decide +kernel
theorem dX6_newForm_35 : decode cX6_newForm 35 = .ok (.ireturn, 1) := by decide +kernel
theorem dX7_init_0 : decode cX7_init 0 = .ok (.aload_n 0, 1) := by decide +kernel
theorem dX7_init_1 : decode cX7_init 1 = .ok (.invokespecial 1, 3) := by decide +kernel
theorem dX7_init_4 : decode cX7_init 4 = .ok (.aload_n 0, 1) := by decide +kernel
theorem dX7_init_5 : decode cX7_init 5 = .ok (.iconst 0, 1) := by decide +kernel
theorem dX7_init_6 : decode cX7_init 6 = .ok (.putfield 7, 3) := by decide +kernel
theorem dX7_init_9 : decode cX7_init 9 = .ok (.aload_n 0, 1) := by decide +kernel
theorem dX7_init_10 : decode cX7_init 10 = .ok (.iconst 0, 1) := by decide +kernel
theorem dX7_init_11 : decode cX7_init 11 = .ok (.putfield 13, 3) := by decide +kernel
theorem dX7_init_14 : decode cX7_init 14 = .ok (.aload_n 0, 1) := by decide +kernel
theorem dX7_init_15 : decode cX7_init 15 = .ok (.iconst 0, 1) := by decide +kernel
theorem dX7_init_16 : decode cX7_init 16 = .ok (.putfield 16, 3) := by decide +kernel
theorem dX7_init_19 : decode cX7_init 19 = .ok (.aload_n 0, 1) := by decide +kernel
theorem dX7_init_20 : decode cX7_init 20 = .ok (.iconst 0, 1) := by decide +kernel
theorem dX7_init_21 : decode cX7_init 21 = .ok (.putfield 20, 3) := by decide +kernel
theorem dX7_init_24 : decode cX7_init 24 = .ok (.aload_n 0, 1) := by decide +kernel
theorem dX7_init_25 : decode cX7_init 25 = .ok (.iconst 1, 1) := by decide +kernel
theorem dX7_init_26 : decode cX7_init 26 = .ok (.putfield 23, 3) := by decide +kernel
theorem dX7_init_29 : decode cX7_init 29 = .ok (.aload_n 0, 1) := by decide +kernel
theorem dX7_init_30 : decode cX7_init 30 = .ok (.iconst 1, 1) := by decide +kernel
theorem dX7_init_31 : decode cX7_init 31 = .ok (.putfield 26, 3) := by decide +kernel
theorem dX7_init_34 : decode cX7_init 34 = .ok (.aload_n 0, 1) := by decide +kernel
theorem dX7_init_35 : decode cX7_init 35 = .ok (.iconst 0, 1) := by decide +kernel
theorem dX7_init_36 : decode cX7_init 36 = .ok (.putfield 29, 3) := by decide +kernel
theorem dX7_init_39 : decode cX7_init 39 = .ok (.aload_n 0, 1) := by decide +kernel
theorem dX7_init_40 : decode cX7_init 40 = .ok (.iconst 0, 1) := by decide +kernel
theorem dX7_init_41 : decode cX7_init 41 = .ok (.putfield 32, 3) := by decide +kernel
theorem dX7_init_44 : decode cX7_init 44 = .ok (.aload_n 0, 1) := by decide +kernel
theorem dX7_init_45 : decode cX7_init 45 = .ok (.iconst 0, 1) := by decide +kernel
theorem dX7_init_46 : decode cX7_init 46 = .ok (.putfield 35, 3) := by decide +kernel
theorem dX7_init_49 : decode cX7_init 49 = .ok (.return_, 1) := by decide +kernel
theorem dX7_arrive_0 : decode cX7_arrive 0 = .ok (.aload_n 0, 1) := by decide +kernel
theorem dX7_arrive_1 : decode cX7_arrive 1 = .ok (.iload_n 1, 1) := by decide +kernel
theorem dX7_arrive_2 : decode cX7_arrive 2 = .ok (.putfield 7, 3) := by decide +kernel
theorem dX7_arrive_5 : decode cX7_arrive 5 = .ok (.aload_n 0, 1) := by decide +kernel
theorem dX7_arrive_6 : decode cX7_arrive 6 = .ok (.iconst 0, 1) := by decide +kernel
theorem dX7_arrive_7 : decode cX7_arrive 7 = .ok (.putfield 13, 3) := by decide +kernel
theorem dX7_arrive_10 : decode cX7_arrive 10 = .ok (.aload_n 0, 1) := by decide +kernel
theorem dX7_arrive_11 : decode cX7_arrive 11 = .ok (.iconst 1, 1) := by decide +kernel
theorem dX7_arrive_12 : decode cX7_arrive 12 = .ok (.putfield 16, 3) := by decide +kernel
theorem dX7_arrive_15 : decode cX7_arrive 15 = .ok (.aload_n 0, 1) := by decide +kernel
theorem dX7_arrive_16 : decode cX7_arrive 16 = .ok (.iload_n 2, 1) := by decide +kernel
theorem dX7_arrive_17 : decode cX7_arrive 17 = .ok (.putfield 20, 3) := by decide +kernel
theorem dX7_arrive_20 : decode cX7_arrive 20 = .ok (.aload_n 0, 1) := by decide +kernel
theorem dX7_arrive_21 : decode cX7_arrive 21 = .ok (.iload_n 3, 1) := by decide +kernel
theorem dX7_arrive_22 : decode cX7_arrive 22 = .ok (.putfield 23, 3) := by decide +kernel
theorem dX7_arrive_25 : decode cX7_arrive 25 = .ok (.aload_n 0, 1) := by decide +kernel
theorem dX7_arrive_26 : decode cX7_arrive 26 = .ok (.iload_n 3, 1) := by decide +kernel
theorem dX7_arrive_27 : decode cX7_arrive 27 = .ok (.iconst 2, 1) := by decide +kernel
theorem dX7_arrive_28 : decode cX7_arrive 28 = .ok (.if_icmp .ge 7, 3) := by decide +kernel
theorem dX7_arrive_31 : decode cX7_arrive 31 = .ok (.iconst 1, 1) := by decide +kernel
theorem dX7_arrive_32 : decode cX7_arrive 32 = .ok (.goto 6, 3) := by decide +kernel
theorem dX7_arrive_35 : decode cX7_arrive 35 = .ok (.iload_n 3, 1) := by decide +kernel
theorem dX7_arrive_36 : decode cX7_arrive 36 = .ok (.iconst 2, 1) := by decide +kernel
theorem dX7_arrive_37 : decode cX7_arrive 37 = .ok (.idiv, 1) := by decide +kernel
theorem dX7_arrive_38 : decode cX7_arrive 38 = .ok (.putfield 26, 3) := by decide +kernel
theorem dX7_arrive_41 : decode cX7_arrive 41 = .ok (.aload_n 0, 1) := by decide +kernel
theorem dX7_arrive_42 : decode cX7_arrive 42 = .ok (.bipush 9, 2) := by decide +kernel
theorem dX7_arrive_44 : decode cX7_arrive 44 = .ok (.putfield 29, 3) := by decide +kernel
theorem dX7_arrive_47 : decode cX7_arrive 47 = .ok (.aload_n 0, 1) := by decide +kernel
theorem dX7_arrive_48 : decode cX7_arrive 48 = .ok (.iconst 5, 1) := by decide +kernel
theorem dX7_arrive_49 : decode cX7_arrive 49 = .ok (.putfield 32, 3) := by decide +kernel
theorem dX7_arrive_52 : decode cX7_arrive 52 = .ok (.aload_n 0, 1) := by decide +kernel
theorem dX7_arrive_53 : decode cX7_arrive 53 = .ok (.iconst 5, 1) := by decide +kernel
theorem dX7_arrive_54 : decode cX7_arrive 54 = .ok (.putfield 35, 3) := by decide +kernel
theorem dX7_arrive_57 : decode cX7_arrive 57 = .ok (.return_, 1) := by decide +kernel
theorem dX7_become_0 : decode cX7_become 0 = .ok (.aload_n 0, 1) := by decide +kernel
theorem dX7_become_1 : decode cX7_become 1 = .ok (.aload_n 1, 1) := by decide +kernel
theorem dX7_become_2 : decode cX7_become 2 = .ok (.getfield 7, 3) := by decide +kernel
theorem dX7_become_5 : decode cX7_become 5 = .ok (.putfield 7, 3) := by decide +kernel
theorem dX7_become_8 : decode cX7_become 8 = .ok (.aload_n 0, 1) := by decide +kernel
theorem dX7_become_9 : decode cX7_become 9 = .ok (.aload_n 1, 1) := by decide +kernel
theorem dX7_become_10 : decode cX7_become 10 = .ok (.getfield 13, 3) := by decide +kernel
theorem dX7_become_13 : decode cX7_become 13 = .ok (.putfield 13, 3) := by decide +kernel
theorem dX7_become_16 : decode cX7_become 16 = .ok (.aload_n 0, 1) := by decide +kernel
theorem dX7_become_17 : decode cX7_become 17 = .ok (.aload_n 1, 1) := by decide +kernel
theorem dX7_become_18 : decode cX7_become 18 = .ok (.getfield 16, 3) := by decide +kernel
theorem dX7_become_21 : decode cX7_become 21 = .ok (.putfield 16, 3) := by decide +kernel
theorem dX7_become_24 : decode cX7_become 24 = .ok (.aload_n 0, 1) := by decide +kernel
theorem dX7_become_25 : decode cX7_become 25 = .ok (.aload_n 1, 1) := by decide +kernel
theorem dX7_become_26 : decode cX7_become 26 = .ok (.getfield 20, 3) := by decide +kernel
theorem dX7_become_29 : decode cX7_become 29 = .ok (.putfield 20, 3) := by decide +kernel
theorem dX7_become_32 : decode cX7_become 32 = .ok (.aload_n 0, 1) := by decide +kernel
theorem dX7_become_33 : decode cX7_become 33 = .ok (.aload_n 1, 1) := by decide +kernel
theorem dX7_become_34 : decode cX7_become 34 = .ok (.getfield 23, 3) := by decide +kernel
theorem dX7_become_37 : decode cX7_become 37 = .ok (.putfield 23, 3) := by decide +kernel
theorem dX7_become_40 : decode cX7_become 40 = .ok (.aload_n 0, 1) := by decide +kernel
theorem dX7_become_41 : decode cX7_become 41 = .ok (.aload_n 1, 1) := by decide +kernel
theorem dX7_become_42 : decode cX7_become 42 = .ok (.getfield 26, 3) := by decide +kernel
theorem dX7_become_45 : decode cX7_become 45 = .ok (.putfield 26, 3) := by decide +kernel
theorem dX7_become_48 : decode cX7_become 48 = .ok (.aload_n 0, 1) := by decide +kernel
theorem dX7_become_49 : decode cX7_become 49 = .ok (.aload_n 1, 1) := by decide +kernel
theorem dX7_become_50 : decode cX7_become 50 = .ok (.getfield 29, 3) := by decide +kernel
theorem dX7_become_53 : decode cX7_become 53 = .ok (.putfield 29, 3) := by decide +kernel
theorem dX7_become_56 : decode cX7_become 56 = .ok (.aload_n 0, 1) := by decide +kernel
theorem dX7_become_57 : decode cX7_become 57 = .ok (.aload_n 1, 1) := by decide +kernel
theorem dX7_become_58 : decode cX7_become 58 = .ok (.getfield 32, 3) := by decide +kernel
theorem dX7_become_61 : decode cX7_become 61 = .ok (.putfield 32, 3) := by decide +kernel
theorem dX7_become_64 : decode cX7_become 64 = .ok (.aload_n 0, 1) := by decide +kernel
theorem dX7_become_65 : decode cX7_become 65 = .ok (.aload_n 1, 1) := by decide +kernel
theorem dX7_become_66 : decode cX7_become 66 = .ok (.getfield 35, 3) := by decide +kernel
theorem dX7_become_69 : decode cX7_become 69 = .ok (.putfield 35, 3) := by decide +kernel
theorem dX7_become_72 : decode cX7_become 72 = .ok (.return_, 1) := by decide +kernel
theorem dX7_hasteOver_0 : decode cX7_hasteOver 0 = .ok (.aload_n 0, 1) := by decide +kernel
theorem dX7_hasteOver_1 : decode cX7_hasteOver 1 = .ok (.getfield 23, 3) := by decide +kernel
theorem dX7_hasteOver_4 : decode cX7_hasteOver 4 = .ok (.ifCond .le 15, 3) := by decide +kernel
theorem dX7_hasteOver_7 : decode cX7_hasteOver 7 = .ok (.iload_n 1, 1) := by decide +kernel
theorem dX7_hasteOver_8 : decode cX7_hasteOver 8 = .ok (.bipush 100, 2) := by decide +kernel
theorem dX7_hasteOver_10 : decode cX7_hasteOver 10 = .ok (.imul, 1) := by decide +kernel
theorem dX7_hasteOver_11 : decode cX7_hasteOver 11 = .ok (.aload_n 0, 1) := by decide +kernel
theorem dX7_hasteOver_12 : decode cX7_hasteOver 12 = .ok (.getfield 23, 3) := by decide +kernel
theorem dX7_hasteOver_15 : decode cX7_hasteOver 15 = .ok (.idiv, 1) := by decide +kernel
theorem dX7_hasteOver_16 : decode cX7_hasteOver 16 = .ok (.goto 4, 3) := by decide +kernel
theorem dX7_hasteOver_19 : decode cX7_hasteOver 19 = .ok (.iconst 0, 1) := by decide +kernel
theorem dX7_hasteOver_20 : decode cX7_hasteOver 20 = .ok (.istore_n 2, 1) := by decide +kernel
theorem dX7_hasteOver_21 : decode cX7_hasteOver 21 = .ok (.aload_n 0, 1) := by decide +kernel
theorem dX7_hasteOver_22 : decode cX7_hasteOver 22 = .ok (.getfield 20, 3) := by decide +kernel
theorem dX7_hasteOver_25 : decode cX7_hasteOver 25 = .ok (.tableswitch 111 1 6 #[39, 49, 59, 77, 84, 96], 39) := by decide +kernel
theorem dX7_hasteOver_64 : decode cX7_hasteOver 64 = .ok (.iload_n 2, 1) := by decide +kernel
theorem dX7_hasteOver_65 : decode cX7_hasteOver 65 = .ok (.aload_n 0, 1) := by decide +kernel
theorem dX7_hasteOver_66 : decode cX7_hasteOver 66 = .ok (.getfield 32, 3) := by decide +kernel
theorem dX7_hasteOver_69 : decode cX7_hasteOver 69 = .ok (.isub, 1) := by decide +kernel
theorem dX7_hasteOver_70 : decode cX7_hasteOver 70 = .ok (.istore_n 3, 1) := by decide +kernel
theorem dX7_hasteOver_71 : decode cX7_hasteOver 71 = .ok (.goto 67, 3) := by decide +kernel
theorem dX7_hasteOver_74 : decode cX7_hasteOver 74 = .ok (.iload_n 2, 1) := by decide +kernel
theorem dX7_hasteOver_75 : decode cX7_hasteOver 75 = .ok (.aload_n 0, 1) := by decide +kernel
theorem dX7_hasteOver_76 : decode cX7_hasteOver 76 = .ok (.getfield 32, 3) := by decide +kernel
theorem dX7_hasteOver_79 : decode cX7_hasteOver 79 = .ok (.iadd, 1) := by decide +kernel
theorem dX7_hasteOver_80 : decode cX7_hasteOver 80 = .ok (.istore_n 3, 1) := by decide +kernel
theorem dX7_hasteOver_81 : decode cX7_hasteOver 81 = .ok (.goto 57, 3) := by decide +kernel
theorem dX7_hasteOver_84 : decode cX7_hasteOver 84 = .ok (.iload_n 2, 1) := by decide +kernel
theorem dX7_hasteOver_85 : decode cX7_hasteOver 85 = .ok (.aload_n 0, 1) := by decide +kernel
theorem dX7_hasteOver_86 : decode cX7_hasteOver 86 = .ok (.getfield 32, 3) := by decide +kernel
theorem dX7_hasteOver_89 : decode cX7_hasteOver 89 = .ok (.isub, 1) := by decide +kernel
theorem dX7_hasteOver_90 : decode cX7_hasteOver 90 = .ok (.bipush 9, 2) := by decide +kernel
theorem dX7_hasteOver_92 : decode cX7_hasteOver 92 = .ok (.aload_n 0, 1) := by decide +kernel
theorem dX7_hasteOver_93 : decode cX7_hasteOver 93 = .ok (.getfield 35, 3) := by decide +kernel
theorem dX7_hasteOver_96 : decode cX7_hasteOver 96 = .ok (.isub, 1) := by decide +kernel
theorem dX7_hasteOver_97 : decode cX7_hasteOver 97 = .ok (.isub, 1) := by decide +kernel
theorem dX7_hasteOver_98 : decode cX7_hasteOver 98 = .ok (.istore_n 3, 1) := by decide +kernel
theorem dX7_hasteOver_99 : decode cX7_hasteOver 99 = .ok (.goto 39, 3) := by decide +kernel
theorem dX7_hasteOver_102 : decode cX7_hasteOver 102 = .ok (.iconst 2, 1) := by decide +kernel
theorem dX7_hasteOver_103 : decode cX7_hasteOver 103 = .ok (.iload_n 2, 1) := by decide +kernel
theorem dX7_hasteOver_104 : decode cX7_hasteOver 104 = .ok (.imul, 1) := by decide +kernel
theorem dX7_hasteOver_105 : decode cX7_hasteOver 105 = .ok (.istore_n 3, 1) := by decide +kernel
theorem dX7_hasteOver_106 : decode cX7_hasteOver 106 = .ok (.goto 32, 3) := by decide +kernel
theorem dX7_hasteOver_109 : decode cX7_hasteOver 109 = .ok (.iload_n 2, 1) := by decide +kernel
theorem dX7_hasteOver_110 : decode cX7_hasteOver 110 = .ok (.aload_n 0, 1) := by decide +kernel
theorem dX7_hasteOver_111 : decode cX7_hasteOver 111 = .ok (.getfield 32, 3) := by decide +kernel
theorem dX7_hasteOver_114 : decode cX7_hasteOver 114 = .ok (.isub, 1) := by decide +kernel
theorem dX7_hasteOver_115 : decode cX7_hasteOver 115 = .ok (.iconst 2, 1) := by decide +kernel
theorem dX7_hasteOver_116 : decode cX7_hasteOver 116 = .ok (.idiv, 1) := by decide +kernel
theorem dX7_hasteOver_117 : decode cX7_hasteOver 117 = .ok (.istore_n 3, 1) := by decide +kernel
theorem dX7_hasteOver_118 : decode cX7_hasteOver 118 = .ok (.goto 20, 3) := by decide +kernel
theorem dX7_hasteOver_121 : decode cX7_hasteOver 121 = .ok (.iload_n 2, 1) := by decide +kernel
theorem dX7_hasteOver_122 : decode cX7_hasteOver 122 = .ok (.aload_n 0, 1) := by decide +kernel
theorem dX7_hasteOver_123 : decode cX7_hasteOver 123 = .ok (.getfield 32, 3) := by decide +kernel
theorem dX7_hasteOver_126 : decode cX7_hasteOver 126 = .ok (.iadd, 1) := by decide +kernel
theorem dX7_hasteOver_127 : decode cX7_hasteOver 127 = .ok (.aload_n 0, 1) := by decide +kernel
theorem dX7_hasteOver_128 : decode cX7_hasteOver 128 = .ok (.getfield 35, 3) := by decide +kernel
theorem dX7_hasteOver_131 : decode cX7_hasteOver 131 = .ok (.iadd, 1) := by decide +kernel
theorem dX7_hasteOver_132 : decode cX7_hasteOver 132 = .ok (.istore_n 3, 1) := by decide +kernel
theorem dX7_hasteOver_133 : decode cX7_hasteOver 133 = .ok (.goto 5, 3) := by decide +kernel
theorem dX7_hasteOver_136 : decode cX7_hasteOver 136 = .ok (.iload_n 2, 1) := by decide +kernel
theorem dX7_hasteOver_137 : decode cX7_hasteOver 137 = .ok (.istore_n 3, 1) := by decide +kernel
theorem dX7_hasteOver_138 : decode cX7_hasteOver 138 = .ok (.iload_n 3, 1) := by decide +kernel
theorem dX7_hasteOver_139 : decode cX7_hasteOver 139 = .ok (.ifCond .ge 7, 3) := by decide +kernel
theorem dX7_hasteOver_142 : decode cX7_hasteOver 142 = .ok (.iconst 0, 1) := by decide +kernel
theorem dX7_hasteOver_143 : decode cX7_hasteOver 143 = .ok (.goto 4, 3) := by decide +kernel
theorem dX7_hasteOver_146 : decode cX7_hasteOver 146 = .ok (.iload_n 3, 1) := by decide +kernel
theorem dX7_hasteOver_147 : decode cX7_hasteOver 147 = .ok (.ireturn, 1) := by decide +kernel
theorem dX7_change_0 : decode cX7_change 0 = .ok (.iload_n 1, 1) := by decide +kernel
theorem dX7_change_1 : decode cX7_change 1 = .ok (.tableswitch 100 0 4 #[35, 48, 61, 74, 87], 35) := by decide +kernel
theorem dX7_change_36 : decode cX7_change 36 = .ok (.aload_n 0, 1) := by decide +kernel
theorem dX7_change_37 : decode cX7_change 37 = .ok (.getfield 23, 3) := by decide +kernel
theorem dX7_change_40 : decode cX7_change 40 = .ok (.istore_n 3, 1) := by decide +kernel
theorem dX7_change_41 : decode cX7_change 41 = .ok (.aload_n 0, 1) := by decide +kernel
theorem dX7_change_42 : decode cX7_change 42 = .ok (.iload_n 2, 1) := by decide +kernel
theorem dX7_change_43 : decode cX7_change 43 = .ok (.putfield 23, 3) := by decide +kernel
theorem dX7_change_46 : decode cX7_change 46 = .ok (.goto 65, 3) := by decide +kernel
theorem dX7_change_49 : decode cX7_change 49 = .ok (.aload_n 0, 1) := by decide +kernel
theorem dX7_change_50 : decode cX7_change 50 = .ok (.getfield 26, 3) := by decide +kernel
theorem dX7_change_53 : decode cX7_change 53 = .ok (.istore_n 3, 1) := by decide +kernel
theorem dX7_change_54 : decode cX7_change 54 = .ok (.aload_n 0, 1) := by decide +kernel
theorem dX7_change_55 : decode cX7_change 55 = .ok (.iload_n 2, 1) := by decide +kernel
theorem dX7_change_56 : decode cX7_change 56 = .ok (.putfield 26, 3) := by decide +kernel
theorem dX7_change_59 : decode cX7_change 59 = .ok (.goto 52, 3) := by decide +kernel
theorem dX7_change_62 : decode cX7_change 62 = .ok (.aload_n 0, 1) := by decide +kernel
theorem dX7_change_63 : decode cX7_change 63 = .ok (.getfield 29, 3) := by decide +kernel
theorem dX7_change_66 : decode cX7_change 66 = .ok (.istore_n 3, 1) := by decide +kernel
theorem dX7_change_67 : decode cX7_change 67 = .ok (.aload_n 0, 1) := by decide +kernel
theorem dX7_change_68 : decode cX7_change 68 = .ok (.iload_n 2, 1) := by decide +kernel
theorem dX7_change_69 : decode cX7_change 69 = .ok (.putfield 29, 3) := by decide +kernel
theorem dX7_change_72 : decode cX7_change 72 = .ok (.goto 39, 3) := by decide +kernel
theorem dX7_change_75 : decode cX7_change 75 = .ok (.aload_n 0, 1) := by decide +kernel
theorem dX7_change_76 : decode cX7_change 76 = .ok (.getfield 32, 3) := by decide +kernel
theorem dX7_change_79 : decode cX7_change 79 = .ok (.istore_n 3, 1) := by decide +kernel
theorem dX7_change_80 : decode cX7_change 80 = .ok (.aload_n 0, 1) := by decide +kernel
theorem dX7_change_81 : decode cX7_change 81 = .ok (.iload_n 2, 1) := by decide +kernel
theorem dX7_change_82 : decode cX7_change 82 = .ok (.putfield 32, 3) := by decide +kernel
theorem dX7_change_85 : decode cX7_change 85 = .ok (.goto 26, 3) := by decide +kernel
theorem dX7_change_88 : decode cX7_change 88 = .ok (.aload_n 0, 1) := by decide +kernel
theorem dX7_change_89 : decode cX7_change 89 = .ok (.getfield 35, 3) := by decide +kernel
theorem dX7_change_92 : decode cX7_change 92 = .ok (.istore_n 3, 1) := by decide +kernel
theorem dX7_change_93 : decode cX7_change 93 = .ok (.aload_n 0, 1) := by decide +kernel
theorem dX7_change_94 : decode cX7_change 94 = .ok (.iload_n 2, 1) := by decide +kernel
theorem dX7_change_95 : decode cX7_change 95 = .ok (.putfield 35, 3) := by decide +kernel
theorem dX7_change_98 : decode cX7_change 98 = .ok (.goto 13, 3) := by decide +kernel
theorem dX7_change_101 : decode cX7_change 101 = .ok (.aload_n 0, 1) := by decide +kernel
theorem dX7_change_102 : decode cX7_change 102 = .ok (.getfield 20, 3) := by decide +kernel
theorem dX7_change_105 : decode cX7_change 105 = .ok (.istore_n 3, 1) := by decide +kernel
theorem dX7_change_106 : decode cX7_change 106 = .ok (.aload_n 0, 1) := by decide +kernel
theorem dX7_change_107 : decode cX7_change 107 = .ok (.iload_n 2, 1) := by decide +kernel
theorem dX7_change_108 : decode cX7_change 108 = .ok (.putfield 20, 3) := by decide +kernel
theorem dX7_change_111 : decode cX7_change 111 = .ok (.iload_n 3, 1) := by decide +kernel
theorem dX7_change_112 : decode cX7_change 112 = .ok (.ireturn, 1) := by decide +kernel
theorem dX7_tell_0 : decode cX7_tell 0 = .ok (.iload_n 1, 1) := by decide +kernel
theorem dX7_tell_1 : decode cX7_tell 1 = .ok (.tableswitch 68 0 4 #[35, 40, 45, 58, 63], 35) := by decide +kernel
theorem dX7_tell_36 : decode cX7_tell 36 = .ok (.aload_n 0, 1) := by decide +kernel
theorem dX7_tell_37 : decode cX7_tell 37 = .ok (.getfield 7, 3) := by decide +kernel
theorem dX7_tell_40 : decode cX7_tell 40 = .ok (.ireturn, 1) := by decide +kernel
theorem dX7_tell_41 : decode cX7_tell 41 = .ok (.aload_n 0, 1) := by decide +kernel
theorem dX7_tell_42 : decode cX7_tell 42 = .ok (.getfield 13, 3) := by decide +kernel
theorem dX7_tell_45 : decode cX7_tell 45 = .ok (.ireturn, 1) := by decide +kernel
theorem dX7_tell_46 : decode cX7_tell 46 = .ok (.aload_n 0, 1) := by decide +kernel
theorem dX7_tell_47 : decode cX7_tell 47 = .ok (.getfield 16, 3) := by decide +kernel
theorem dX7_tell_50 : decode cX7_tell 50 = .ok (.ifCond .eq 7, 3) := by decide +kernel
theorem dX7_tell_53 : decode cX7_tell 53 = .ok (.iconst 1, 1) := by decide +kernel
theorem dX7_tell_54 : decode cX7_tell 54 = .ok (.goto 4, 3) := by decide +kernel
theorem dX7_tell_57 : decode cX7_tell 57 = .ok (.iconst 0, 1) := by decide +kernel
theorem dX7_tell_58 : decode cX7_tell 58 = .ok (.ireturn, 1) := by decide +kernel
theorem dX7_tell_59 : decode cX7_tell 59 = .ok (.aload_n 0, 1) := by decide +kernel
theorem dX7_tell_60 : decode cX7_tell 60 = .ok (.getfield 20, 3) := by decide +kernel
theorem dX7_tell_63 : decode cX7_tell 63 = .ok (.ireturn, 1) := by decide +kernel
theorem dX7_tell_64 : decode cX7_tell 64 = .ok (.aload_n 0, 1) := by decide +kernel
theorem dX7_tell_65 : decode cX7_tell 65 = .ok (.getfield 23, 3) := by decide +kernel
theorem dX7_tell_68 : decode cX7_tell 68 = .ok (.ireturn, 1) := by decide +kernel
theorem dX7_tell_69 : decode cX7_tell 69 = .ok (.aload_n 0, 1) := by decide +kernel
theorem dX7_tell_70 : decode cX7_tell 70 = .ok (.getfield 26, 3) := by decide +kernel
theorem dX7_tell_73 : decode cX7_tell 73 = .ok (.ireturn, 1) := by decide +kernel
theorem dX8_init_0 : decode cX8_init 0 = .ok (.aload_n 0, 1) := by decide +kernel
theorem dX8_init_1 : decode cX8_init 1 = .ok (.invokespecial 1, 3) := by decide +kernel
theorem dX8_init_4 : decode cX8_init 4 = .ok (.aload_n 0, 1) := by decide +kernel
theorem dX8_init_5 : decode cX8_init 5 = .ok (.new 7, 3) := by decide +kernel
theorem dX8_init_8 : decode cX8_init 8 = .ok (.dup, 1) := by decide +kernel
theorem dX8_init_9 : decode cX8_init 9 = .ok (.invokespecial 9, 3) := by decide +kernel
theorem dX8_init_12 : decode cX8_init 12 = .ok (.putfield 10, 3) := by decide +kernel
theorem dX8_init_15 : decode cX8_init 15 = .ok (.aload_n 0, 1) := by decide +kernel
theorem dX8_init_16 : decode cX8_init 16 = .ok (.aload_n 0, 1) := by decide +kernel
theorem dX8_init_17 : decode cX8_init 17 = .ok (.getfield 10, 3) := by decide +kernel
theorem dX8_init_20 : decode cX8_init 20 = .ok (.getfield 16, 3) := by decide +kernel
theorem dX8_init_23 : decode cX8_init 23 = .ok (.putfield 20, 3) := by decide +kernel
theorem dX8_init_26 : decode cX8_init 26 = .ok (.aload_n 0, 1) := by decide +kernel
theorem dX8_init_27 : decode cX8_init 27 = .ok (.new 21, 3) := by decide +kernel
theorem dX8_init_30 : decode cX8_init 30 = .ok (.dup, 1) := by decide +kernel
theorem dX8_init_31 : decode cX8_init 31 = .ok (.invokespecial 23, 3) := by decide +kernel
theorem dX8_init_34 : decode cX8_init 34 = .ok (.putfield 24, 3) := by decide +kernel
theorem dX8_init_37 : decode cX8_init 37 = .ok (.aload_n 0, 1) := by decide +kernel
theorem dX8_init_38 : decode cX8_init 38 = .ok (.new 27, 3) := by decide +kernel
theorem dX8_init_41 : decode cX8_init 41 = .ok (.dup, 1) := by decide +kernel
theorem dX8_init_42 : decode cX8_init 42 = .ok (.bipush 16, 2) := by decide +kernel
theorem dX8_init_44 : decode cX8_init 44 = .ok (.invokespecial 29, 3) := by decide +kernel
theorem dX8_init_47 : decode cX8_init 47 = .ok (.putfield 32, 3) := by decide +kernel
theorem dX8_init_50 : decode cX8_init 50 = .ok (.aload_n 0, 1) := by decide +kernel
theorem dX8_init_51 : decode cX8_init 51 = .ok (.new 27, 3) := by decide +kernel
theorem dX8_init_54 : decode cX8_init 54 = .ok (.dup, 1) := by decide +kernel
theorem dX8_init_55 : decode cX8_init 55 = .ok (.bipush 60, 2) := by decide +kernel
theorem dX8_init_57 : decode cX8_init 57 = .ok (.invokespecial 29, 3) := by decide +kernel
theorem dX8_init_60 : decode cX8_init 60 = .ok (.putfield 36, 3) := by decide +kernel
theorem dX8_init_63 : decode cX8_init 63 = .ok (.aload_n 0, 1) := by decide +kernel
theorem dX8_init_64 : decode cX8_init 64 = .ok (.new 39, 3) := by decide +kernel
theorem dX8_init_67 : decode cX8_init 67 = .ok (.dup, 1) := by decide +kernel
theorem dX8_init_68 : decode cX8_init 68 = .ok (.invokespecial 41, 3) := by decide +kernel
theorem dX8_init_71 : decode cX8_init 71 = .ok (.putfield 42, 3) := by decide +kernel
theorem dX8_init_74 : decode cX8_init 74 = .ok (.aload_n 0, 1) := by decide +kernel
theorem dX8_init_75 : decode cX8_init 75 = .ok (.bipush 7, 2) := by decide +kernel
theorem dX8_init_77 : decode cX8_init 77 = .ok (.newarray .int, 2) := by decide +kernel
theorem dX8_init_79 : decode cX8_init 79 = .ok (.putfield 46, 3) := by decide +kernel
theorem dX8_init_82 : decode cX8_init 82 = .ok (.aload_n 0, 1) := by decide +kernel
theorem dX8_init_83 : decode cX8_init 83 = .ok (.iconst 0, 1) := by decide +kernel
theorem dX8_init_84 : decode cX8_init 84 = .ok (.putfield 50, 3) := by decide +kernel
theorem dX8_init_87 : decode cX8_init 87 = .ok (.return_, 1) := by decide +kernel
theorem dX8_feed_0 : decode cX8_feed 0 = .ok (.iload_n 1, 1) := by decide +kernel
theorem dX8_feed_1 : decode cX8_feed 1 = .ok (.iconst 1, 1) := by decide +kernel
theorem dX8_feed_2 : decode cX8_feed 2 = .ok (.if_icmp .ge 9, 3) := by decide +kernel
theorem dX8_feed_5 : decode cX8_feed 5 = .ok (.aload_n 0, 1) := by decide +kernel
theorem dX8_feed_6 : decode cX8_feed 6 = .ok (.iconst 4, 1) := by decide +kernel
theorem dX8_feed_7 : decode cX8_feed 7 = .ok (.invokevirtual 54, 3) := by decide +kernel
theorem dX8_feed_10 : decode cX8_feed 10 = .ok (.ireturn, 1) := by decide +kernel
theorem dX8_feed_11 : decode cX8_feed 11 = .ok (.iload_n 1, 1) := by decide +kernel
theorem dX8_feed_12 : decode cX8_feed 12 = .ok (.bipush 8, 2) := by decide +kernel
theorem dX8_feed_14 : decode cX8_feed 14 = .ok (.if_icmp .gt 17, 3) := by decide +kernel
theorem dX8_feed_17 : decode cX8_feed 17 = .ok (.aload_n 0, 1) := by decide +kernel
theorem dX8_feed_18 : decode cX8_feed 18 = .ok (.getfield 42, 3) := by decide +kernel
theorem dX8_feed_21 : decode cX8_feed 21 = .ok (.getfield 58, 3) := by decide +kernel
theorem dX8_feed_24 : decode cX8_feed 24 = .ok (.iload_n 1, 1) := by decide +kernel
theorem dX8_feed_25 : decode cX8_feed 25 = .ok (.iadd, 1) := by decide +kernel
theorem dX8_feed_26 : decode cX8_feed 26 = .ok (.bipush 64, 2) := by decide +kernel
theorem dX8_feed_28 : decode cX8_feed 28 = .ok (.if_icmp .le 10, 3) := by decide +kernel
theorem dX8_feed_31 : decode cX8_feed 31 = .ok (.aload_n 0, 1) := by decide +kernel
theorem dX8_feed_32 : decode cX8_feed 32 = .ok (.bipush 6, 2) := by decide +kernel
theorem dX8_feed_34 : decode cX8_feed 34 = .ok (.invokevirtual 54, 3) := by decide +kernel
theorem dX8_feed_37 : decode cX8_feed 37 = .ok (.ireturn, 1) := by decide +kernel
theorem dX8_feed_38 : decode cX8_feed 38 = .ok (.aload_n 0, 1) := by decide +kernel
theorem dX8_feed_39 : decode cX8_feed 39 = .ok (.getfield 42, 3) := by decide +kernel
theorem dX8_feed_42 : decode cX8_feed 42 = .ok (.iload_n 1, 1) := by decide +kernel
theorem dX8_feed_43 : decode cX8_feed 43 = .ok (.lload_n 2, 1) := by decide +kernel
theorem dX8_feed_44 : decode cX8_feed 44 = .ok (.invokevirtual 62, 3) := by decide +kernel
theorem dX8_feed_47 : decode cX8_feed 47 = .ok (.aload_n 0, 1) := by decide +kernel
theorem dX8_feed_48 : decode cX8_feed 48 = .ok (.getfield 42, 3) := by decide +kernel
theorem dX8_feed_51 : decode cX8_feed 51 = .ok (.getfield 58, 3) := by decide +kernel
theorem dX8_feed_54 : decode cX8_feed 54 = .ok (.ireturn, 1) := by decide +kernel
theorem dX8_party_0 : decode cX8_party 0 = .ok (.aload_n 0, 1) := by decide +kernel
theorem dX8_party_1 : decode cX8_party 1 = .ok (.getfield 10, 3) := by decide +kernel
theorem dX8_party_4 : decode cX8_party 4 = .ok (.aload_n 0, 1) := by decide +kernel
theorem dX8_party_5 : decode cX8_party 5 = .ok (.getfield 42, 3) := by decide +kernel
theorem dX8_party_8 : decode cX8_party 8 = .ok (.invokevirtual 66, 3) := by decide +kernel
theorem dX8_party_11 : decode cX8_party 11 = .ok (.istore_n 1, 1) := by decide +kernel
theorem dX8_party_12 : decode cX8_party 12 = .ok (.aload_n 0, 1) := by decide +kernel
theorem dX8_party_13 : decode cX8_party 13 = .ok (.getfield 42, 3) := by decide +kernel
theorem dX8_party_16 : decode cX8_party 16 = .ok (.iconst 0, 1) := by decide +kernel
theorem dX8_party_17 : decode cX8_party 17 = .ok (.putfield 58, 3) := by decide +kernel
theorem dX8_party_20 : decode cX8_party 20 = .ok (.iload_n 1, 1) := by decide +kernel
theorem dX8_party_21 : decode cX8_party 21 = .ok (.ireturn, 1) := by decide +kernel
theorem dX8_chair_0 : decode cX8_chair 0 = .ok (.aload_n 0, 1) := by decide +kernel
theorem dX8_chair_1 : decode cX8_chair 1 = .ok (.getfield 20, 3) := by decide +kernel
theorem dX8_chair_4 : decode cX8_chair 4 = .ok (.iload_n 1, 1) := by decide +kernel
theorem dX8_chair_5 : decode cX8_chair 5 = .ok (.invokevirtual 70, 3) := by decide +kernel
theorem dX8_chair_8 : decode cX8_chair 8 = .ok (.istore_n 2, 1) := by decide +kernel
theorem dX8_chair_9 : decode cX8_chair 9 = .ok (.iload_n 2, 1) := by decide +kernel
theorem dX8_chair_10 : decode cX8_chair 10 = .ok (.ifCond .eq 11, 3) := by decide +kernel
theorem dX8_chair_13 : decode cX8_chair 13 = .ok (.aload_n 0, 1) := by decide +kernel
theorem dX8_chair_14 : decode cX8_chair 14 = .ok (.iload_n 2, 1) := by decide +kernel
theorem dX8_chair_15 : decode cX8_chair 15 = .ok (.invokevirtual 54, 3) := by decide +kernel
theorem dX8_chair_18 : decode cX8_chair 18 = .ok (.goto 11, 3) := by decide +kernel
theorem dX8_chair_21 : decode cX8_chair 21 = .ok (.aload_n 0, 1) := by decide +kernel
theorem dX8_chair_22 : decode cX8_chair 22 = .ok (.getfield 20, 3) := by decide +kernel
theorem dX8_chair_25 : decode cX8_chair 25 = .ok (.iload_n 1, 1) := by decide +kernel
theorem dX8_chair_26 : decode cX8_chair 26 = .ok (.invokevirtual 73, 3) := by decide +kernel
theorem dX8_chair_29 : decode cX8_chair 29 = .ok (.ireturn, 1) := by decide +kernel
theorem dX8_walker_0 : decode cX8_walker 0 = .ok (.aload_n 0, 1) := by decide +kernel
theorem dX8_walker_1 : decode cX8_walker 1 = .ok (.getfield 20, 3) := by decide +kernel
theorem dX8_walker_4 : decode cX8_walker 4 = .ok (.iload_n 1, 1) := by decide +kernel
theorem dX8_walker_5 : decode cX8_walker 5 = .ok (.iload_n 2, 1) := by decide +kernel
theorem dX8_walker_6 : decode cX8_walker 6 = .ok (.iload_n 3, 1) := by decide +kernel
theorem dX8_walker_7 : decode cX8_walker 7 = .ok (.invokevirtual 76, 3) := by decide +kernel
theorem dX8_walker_10 : decode cX8_walker 10 = .ok (.istore 4, 2) := by decide +kernel
theorem dX8_walker_12 : decode cX8_walker 12 = .ok (.iload 4, 2) := by decide +kernel
theorem dX8_walker_14 : decode cX8_walker 14 = .ok (.ifCond .eq 12, 3) := by decide +kernel
theorem dX8_walker_17 : decode cX8_walker 17 = .ok (.aload_n 0, 1) := by decide +kernel
theorem dX8_walker_18 : decode cX8_walker 18 = .ok (.iload 4, 2) := by decide +kernel
theorem dX8_walker_20 : decode cX8_walker 20 = .ok (.invokevirtual 54, 3) := by decide +kernel
theorem dX8_walker_23 : decode cX8_walker 23 = .ok (.goto 13, 3) := by decide +kernel
theorem dX8_walker_26 : decode cX8_walker 26 = .ok (.aload_n 0, 1) := by decide +kernel
theorem dX8_walker_27 : decode cX8_walker 27 = .ok (.getfield 20, 3) := by decide +kernel
theorem dX8_walker_30 : decode cX8_walker 30 = .ok (.iload_n 1, 1) := by decide +kernel
theorem dX8_walker_31 : decode cX8_walker 31 = .ok (.iload_n 2, 1) := by decide +kernel
theorem dX8_walker_32 : decode cX8_walker 32 = .ok (.iload_n 3, 1) := by decide +kernel
theorem dX8_walker_33 : decode cX8_walker 33 = .ok (.invokevirtual 80, 3) := by decide +kernel
theorem dX8_walker_36 : decode cX8_walker 36 = .ok (.ireturn, 1) := by decide +kernel
theorem dX8_set_0 : decode cX8_set 0 = .ok (.aload_n 0, 1) := by decide +kernel
theorem dX8_set_1 : decode cX8_set 1 = .ok (.getfield 20, 3) := by decide +kernel
theorem dX8_set_4 : decode cX8_set 4 = .ok (.iload_n 1, 1) := by decide +kernel
theorem dX8_set_5 : decode cX8_set 5 = .ok (.invokevirtual 83, 3) := by decide +kernel
theorem dX8_set_8 : decode cX8_set 8 = .ok (.ifCond .ne 9, 3) := by decide +kernel
theorem dX8_set_11 : decode cX8_set 11 = .ok (.aload_n 0, 1) := by decide +kernel
theorem dX8_set_12 : decode cX8_set 12 = .ok (.iconst 1, 1) := by decide +kernel
theorem dX8_set_13 : decode cX8_set 13 = .ok (.invokevirtual 54, 3) := by decide +kernel
theorem dX8_set_16 : decode cX8_set 16 = .ok (.ireturn, 1) := by decide +kernel
theorem dX8_set_17 : decode cX8_set 17 = .ok (.iload_n 2, 1) := by decide +kernel
theorem dX8_set_18 : decode cX8_set 18 = .ok (.ifCond .lt 8, 3) := by decide +kernel
theorem dX8_set_21 : decode cX8_set 21 = .ok (.iload_n 2, 1) := by decide +kernel
theorem dX8_set_22 : decode cX8_set 22 = .ok (.iconst 5, 1) := by decide +kernel
theorem dX8_set_23 : decode cX8_set 23 = .ok (.if_icmp .le 9, 3) := by decide +kernel
theorem dX8_set_26 : decode cX8_set 26 = .ok (.aload_n 0, 1) := by decide +kernel
theorem dX8_set_27 : decode cX8_set 27 = .ok (.iconst 2, 1) := by decide +kernel
theorem dX8_set_28 : decode cX8_set 28 = .ok (.invokevirtual 54, 3) := by decide +kernel
theorem dX8_set_31 : decode cX8_set 31 = .ok (.ireturn, 1) := by decide +kernel
theorem dX8_set_32 : decode cX8_set 32 = .ok (.iload_n 3, 1) := by decide +kernel
theorem dX8_set_33 : decode cX8_set 33 = .ok (.iload_n 2, 1) := by decide +kernel
theorem dX8_set_34 : decode cX8_set 34 = .ok (.invokestatic 87, 3) := by decide +kernel
theorem dX8_set_37 : decode cX8_set 37 = .ok (.if_icmp .ge 9, 3) := by decide +kernel
theorem dX8_set_40 : decode cX8_set 40 = .ok (.aload_n 0, 1) := by decide +kernel
theorem dX8_set_41 : decode cX8_set 41 = .ok (.iconst 4, 1) := by decide +kernel
theorem dX8_set_42 : decode cX8_set 42 = .ok (.invokevirtual 54, 3) := by decide +kernel
theorem dX8_set_45 : decode cX8_set 45 = .ok (.ireturn, 1) := by decide +kernel
theorem dX8_set_46 : decode cX8_set 46 = .ok (.iload_n 3, 1) := by decide +kernel
theorem dX8_set_47 : decode cX8_set 47 = .ok (.iload_n 2, 1) := by decide +kernel
theorem dX8_set_48 : decode cX8_set 48 = .ok (.invokestatic 90, 3) := by decide +kernel
theorem dX8_set_51 : decode cX8_set 51 = .ok (.if_icmp .le 10, 3) := by decide +kernel
theorem dX8_set_54 : decode cX8_set 54 = .ok (.aload_n 0, 1) := by decide +kernel
theorem dX8_set_55 : decode cX8_set 55 = .ok (.bipush 6, 2) := by decide +kernel
theorem dX8_set_57 : decode cX8_set 57 = .ok (.invokevirtual 54, 3) := by decide +kernel
theorem dX8_set_60 : decode cX8_set 60 = .ok (.ireturn, 1) := by decide +kernel
theorem dX8_set_61 : decode cX8_set 61 = .ok (.aload_n 0, 1) := by decide +kernel
theorem dX8_set_62 : decode cX8_set 62 = .ok (.getfield 20, 3) := by decide +kernel
theorem dX8_set_65 : decode cX8_set 65 = .ok (.getfield 93, 3) := by decide +kernel
theorem dX8_set_68 : decode cX8_set 68 = .ok (.iload_n 1, 1) := by decide +kernel
theorem dX8_set_69 : decode cX8_set 69 = .ok (.aaload, 1) := by decide +kernel
theorem dX8_set_70 : decode cX8_set 70 = .ok (.iload_n 2, 1) := by decide +kernel
theorem dX8_set_71 : decode cX8_set 71 = .ok (.iload_n 3, 1) := by decide +kernel
theorem dX8_set_72 : decode cX8_set 72 = .ok (.invokevirtual 97, 3) := by decide +kernel
theorem dX8_set_75 : decode cX8_set 75 = .ok (.ireturn, 1) := by decide +kernel
theorem dX8_player_0 : decode cX8_player 0 = .ok (.aload_n 0, 1) := by decide +kernel
theorem dX8_player_1 : decode cX8_player 1 = .ok (.getfield 20, 3) := by decide +kernel
theorem dX8_player_4 : decode cX8_player 4 = .ok (.getfield 103, 3) := by decide +kernel
theorem dX8_player_7 : decode cX8_player 7 = .ok (.iload_n 1, 1) := by decide +kernel
theorem dX8_player_8 : decode cX8_player 8 = .ok (.iload_n 2, 1) := by decide +kernel
theorem dX8_player_9 : decode cX8_player 9 = .ok (.invokevirtual 107, 3) := by decide +kernel
theorem dX8_player_12 : decode cX8_player 12 = .ok (.istore_n 3, 1) := by decide +kernel
theorem dX8_player_13 : decode cX8_player 13 = .ok (.iload_n 3, 1) := by decide +kernel
theorem dX8_player_14 : decode cX8_player 14 = .ok (.ifCond .eq 9, 3) := by decide +kernel
theorem dX8_player_17 : decode cX8_player 17 = .ok (.aload_n 0, 1) := by decide +kernel
theorem dX8_player_18 : decode cX8_player 18 = .ok (.iload_n 3, 1) := by decide +kernel
theorem dX8_player_19 : decode cX8_player 19 = .ok (.invokevirtual 54, 3) := by decide +kernel
theorem dX8_player_22 : decode cX8_player 22 = .ok (.ireturn, 1) := by decide +kernel
theorem dX8_player_23 : decode cX8_player 23 = .ok (.aload_n 0, 1) := by decide +kernel
theorem dX8_player_24 : decode cX8_player 24 = .ok (.getfield 20, 3) := by decide +kernel
theorem dX8_player_27 : decode cX8_player 27 = .ok (.getfield 103, 3) := by decide +kernel
theorem dX8_player_30 : decode cX8_player 30 = .ok (.getfield 112, 3) := by decide +kernel
theorem dX8_player_33 : decode cX8_player 33 = .ok (.istore 4, 2) := by decide +kernel
theorem dX8_player_35 : decode cX8_player 35 = .ok (.aload_n 0, 1) := by decide +kernel
theorem dX8_player_36 : decode cX8_player 36 = .ok (.getfield 20, 3) := by decide +kernel
theorem dX8_player_39 : decode cX8_player 39 = .ok (.getfield 103, 3) := by decide +kernel
theorem dX8_player_42 : decode cX8_player 42 = .ok (.iload_n 1, 1) := by decide +kernel
theorem dX8_player_43 : decode cX8_player 43 = .ok (.putfield 112, 3) := by decide +kernel
theorem dX8_player_46 : decode cX8_player 46 = .ok (.aload_n 0, 1) := by decide +kernel
theorem dX8_player_47 : decode cX8_player 47 = .ok (.getfield 20, 3) := by decide +kernel
theorem dX8_player_50 : decode cX8_player 50 = .ok (.getfield 103, 3) := by decide +kernel
theorem dX8_player_53 : decode cX8_player 53 = .ok (.iload_n 2, 1) := by decide +kernel
theorem dX8_player_54 : decode cX8_player 54 = .ok (.putfield 115, 3) := by decide +kernel
theorem dX8_player_57 : decode cX8_player 57 = .ok (.iload 4, 2) := by decide +kernel
theorem dX8_player_59 : decode cX8_player 59 = .ok (.ireturn, 1) := by decide +kernel
theorem dX8_form_0 : decode cX8_form 0 = .ok (.iload_n 1, 1) := by decide +kernel
theorem dX8_form_1 : decode cX8_form 1 = .ok (.iconst 0, 1) := by decide +kernel
theorem dX8_form_2 : decode cX8_form 2 = .ok (.iconst 2, 1) := by decide +kernel
theorem dX8_form_3 : decode cX8_form 3 = .ok (.invokestatic 118, 3) := by decide +kernel
theorem dX8_form_6 : decode cX8_form 6 = .ok (.istore_n 2, 1) := by decide +kernel
theorem dX8_form_7 : decode cX8_form 7 = .ok (.iload_n 2, 1) := by decide +kernel
theorem dX8_form_8 : decode cX8_form 8 = .ok (.ifCond .eq 9, 3) := by decide +kernel
theorem dX8_form_11 : decode cX8_form 11 = .ok (.aload_n 0, 1) := by decide +kernel
theorem dX8_form_12 : decode cX8_form 12 = .ok (.iload_n 2, 1) := by decide +kernel
theorem dX8_form_13 : decode cX8_form 13 = .ok (.invokevirtual 54, 3) := by decide +kernel
theorem dX8_form_16 : decode cX8_form 16 = .ok (.ireturn, 1) := by decide +kernel
theorem dX8_form_17 : decode cX8_form 17 = .ok (.aload_n 0, 1) := by decide +kernel
theorem dX8_form_18 : decode cX8_form 18 = .ok (.getfield 20, 3) := by decide +kernel
theorem dX8_form_21 : decode cX8_form 21 = .ok (.getfield 121, 3) := by decide +kernel
theorem dX8_form_24 : decode cX8_form 24 = .ok (.istore_n 3, 1) := by decide +kernel
theorem dX8_form_25 : decode cX8_form 25 = .ok (.aload_n 0, 1) := by decide +kernel
theorem dX8_form_26 : decode cX8_form 26 = .ok (.getfield 20, 3) := by decide +kernel
theorem dX8_form_29 : decode cX8_form 29 = .ok (.iload_n 1, 1) := by decide +kernel
theorem dX8_form_30 : decode cX8_form 30 = .ok (.putfield 121, 3) := by decide +kernel
theorem dX8_form_33 : decode cX8_form 33 = .ok (.iload_n 3, 1) := by decide +kernel
theorem dX8_form_34 : decode cX8_form 34 = .ok (.ireturn, 1) := by decide +kernel
theorem dX8_seed_0 : decode cX8_seed 0 = .ok (.aload_n 0, 1) := by decide +kernel
theorem dX8_seed_1 : decode cX8_seed 1 = .ok (.getfield 20, 3) := by decide +kernel
theorem dX8_seed_4 : decode cX8_seed 4 = .ok (.getfield 103, 3) := by decide +kernel
theorem dX8_seed_7 : decode cX8_seed 7 = .ok (.getfield 124, 3) := by decide +kernel
theorem dX8_seed_10 : decode cX8_seed 10 = .ok (.istore_n 2, 1) := by decide +kernel
theorem dX8_seed_11 : decode cX8_seed 11 = .ok (.aload_n 0, 1) := by decide +kernel
theorem dX8_seed_12 : decode cX8_seed 12 = .ok (.getfield 20, 3) := by decide +kernel
theorem dX8_seed_15 : decode cX8_seed 15 = .ok (.getfield 103, 3) := by decide +kernel
theorem dX8_seed_18 : decode cX8_seed 18 = .ok (.iload_n 1, 1) := by decide +kernel
theorem dX8_seed_19 : decode cX8_seed 19 = .ok (.putfield 124, 3) := by decide +kernel
theorem dX8_seed_22 : decode cX8_seed 22 = .ok (.iload_n 2, 1) := by decide +kernel
theorem dX8_seed_23 : decode cX8_seed 23 = .ok (.ireturn, 1) := by decide +kernel
theorem dX8_of_0 : decode cX8_of 0 = .ok (.aload_n 0, 1) := by decide +kernel
theorem dX8_of_1 : decode cX8_of 1 = .ok (.getfield 20, 3) := by decide +kernel
theorem dX8_of_4 : decode cX8_of 4 = .ok (.iload_n 1, 1) := by decide +kernel
theorem dX8_of_5 : decode cX8_of 5 = .ok (.invokevirtual 83, 3) := by decide +kernel
theorem dX8_of_8 : decode cX8_of 8 = .ok (.ifCond .ne 9, 3) := by decide +kernel
theorem dX8_of_11 : decode cX8_of 11 = .ok (.aload_n 0, 1) := by decide +kernel
theorem dX8_of_12 : decode cX8_of 12 = .ok (.iconst 1, 1) := by decide +kernel
theorem dX8_of_13 : decode cX8_of 13 = .ok (.invokevirtual 54, 3) := by decide +kernel
theorem dX8_of_16 : decode cX8_of 16 = .ok (.ireturn, 1) := by decide +kernel
theorem dX8_of_17 : decode cX8_of 17 = .ok (.iload_n 2, 1) := by decide +kernel
theorem dX8_of_18 : decode cX8_of 18 = .ok (.ifCond .lt 8, 3) := by decide +kernel
theorem dX8_of_21 : decode cX8_of 21 = .ok (.iload_n 2, 1) := by decide +kernel
theorem dX8_of_22 : decode cX8_of 22 = .ok (.iconst 5, 1) := by decide +kernel
theorem dX8_of_23 : decode cX8_of 23 = .ok (.if_icmp .le 9, 3) := by decide +kernel
theorem dX8_of_26 : decode cX8_of 26 = .ok (.aload_n 0, 1) := by decide +kernel
theorem dX8_of_27 : decode cX8_of 27 = .ok (.iconst 2, 1) := by decide +kernel
theorem dX8_of_28 : decode cX8_of 28 = .ok (.invokevirtual 54, 3) := by decide +kernel
theorem dX8_of_31 : decode cX8_of 31 = .ok (.ireturn, 1) := by decide +kernel
theorem dX8_of_32 : decode cX8_of 32 = .ok (.aload_n 0, 1) := by decide +kernel
theorem dX8_of_33 : decode cX8_of 33 = .ok (.getfield 20, 3) := by decide +kernel
theorem dX8_of_36 : decode cX8_of 36 = .ok (.getfield 93, 3) := by decide +kernel
theorem dX8_of_39 : decode cX8_of 39 = .ok (.iload_n 1, 1) := by decide +kernel
theorem dX8_of_40 : decode cX8_of 40 = .ok (.aaload, 1) := by decide +kernel
theorem dX8_of_41 : decode cX8_of 41 = .ok (.iload_n 2, 1) := by decide +kernel
theorem dX8_of_42 : decode cX8_of 42 = .ok (.invokevirtual 127, 3) := by decide +kernel
theorem dX8_of_45 : decode cX8_of 45 = .ok (.ireturn, 1) := by decide +kernel
theorem dX8_has_0 : decode cX8_has 0 = .ok (.aload_n 0, 1) := by decide +kernel
theorem dX8_has_1 : decode cX8_has 1 = .ok (.getfield 20, 3) := by decide +kernel
theorem dX8_has_4 : decode cX8_has 4 = .ok (.getfield 130, 3) := by decide +kernel
theorem dX8_has_7 : decode cX8_has 7 = .ok (.iload_n 1, 1) := by decide +kernel
theorem dX8_has_8 : decode cX8_has 8 = .ok (.invokevirtual 134, 3) := by decide +kernel
theorem dX8_has_11 : decode cX8_has 11 = .ok (.ifCond .ne 9, 3) := by decide +kernel
theorem dX8_has_14 : decode cX8_has 14 = .ok (.aload_n 0, 1) := by decide +kernel
theorem dX8_has_15 : decode cX8_has 15 = .ok (.iconst 1, 1) := by decide +kernel
theorem dX8_has_16 : decode cX8_has 16 = .ok (.invokevirtual 54, 3) := by decide +kernel
theorem dX8_has_19 : decode cX8_has 19 = .ok (.ireturn, 1) := by decide +kernel
theorem dX8_has_20 : decode cX8_has 20 = .ok (.aload_n 0, 1) := by decide +kernel
theorem dX8_has_21 : decode cX8_has 21 = .ok (.getfield 20, 3) := by decide +kernel
theorem dX8_has_24 : decode cX8_has 24 = .ok (.getfield 130, 3) := by decide +kernel
theorem dX8_has_27 : decode cX8_has 27 = .ok (.iload_n 1, 1) := by decide +kernel
theorem dX8_has_28 : decode cX8_has 28 = .ok (.invokevirtual 139, 3) := by decide +kernel
theorem dX8_has_31 : decode cX8_has 31 = .ok (.ifCond .eq 7, 3) := by decide +kernel
theorem dX8_has_34 : decode cX8_has 34 = .ok (.iconst 1, 1) := by decide +kernel
theorem dX8_has_35 : decode cX8_has 35 = .ok (.goto 4, 3) := by decide +kernel
theorem dX8_has_38 : decode cX8_has 38 = .ok (.iconst 0, 1) := by decide +kernel
theorem dX8_has_39 : decode cX8_has 39 = .ok (.ireturn, 1) := by decide +kernel
theorem dX8_haste_0 : decode cX8_haste 0 = .ok (.aload_n 0, 1) := by decide +kernel
theorem dX8_haste_1 : decode cX8_haste 1 = .ok (.getfield 20, 3) := by decide +kernel
theorem dX8_haste_4 : decode cX8_haste 4 = .ok (.iload_n 1, 1) := by decide +kernel
theorem dX8_haste_5 : decode cX8_haste 5 = .ok (.invokevirtual 83, 3) := by decide +kernel
theorem dX8_haste_8 : decode cX8_haste 8 = .ok (.ifCond .eq 17, 3) := by decide +kernel
theorem dX8_haste_11 : decode cX8_haste 11 = .ok (.aload_n 0, 1) := by decide +kernel
theorem dX8_haste_12 : decode cX8_haste 12 = .ok (.getfield 20, 3) := by decide +kernel
theorem dX8_haste_15 : decode cX8_haste 15 = .ok (.getfield 130, 3) := by decide +kernel
theorem dX8_haste_18 : decode cX8_haste 18 = .ok (.iload_n 2, 1) := by decide +kernel
theorem dX8_haste_19 : decode cX8_haste 19 = .ok (.invokevirtual 134, 3) := by decide +kernel
theorem dX8_haste_22 : decode cX8_haste 22 = .ok (.ifCond .ne 9, 3) := by decide +kernel
theorem dX8_haste_25 : decode cX8_haste 25 = .ok (.aload_n 0, 1) := by decide +kernel
theorem dX8_haste_26 : decode cX8_haste 26 = .ok (.iconst 1, 1) := by decide +kernel
theorem dX8_haste_27 : decode cX8_haste 27 = .ok (.invokevirtual 54, 3) := by decide +kernel
theorem dX8_haste_30 : decode cX8_haste 30 = .ok (.ireturn, 1) := by decide +kernel
theorem dX8_haste_31 : decode cX8_haste 31 = .ok (.aload_n 0, 1) := by decide +kernel
theorem dX8_haste_32 : decode cX8_haste 32 = .ok (.getfield 20, 3) := by decide +kernel
theorem dX8_haste_35 : decode cX8_haste 35 = .ok (.getfield 93, 3) := by decide +kernel
theorem dX8_haste_38 : decode cX8_haste 38 = .ok (.iload_n 1, 1) := by decide +kernel
theorem dX8_haste_39 : decode cX8_haste 39 = .ok (.aaload, 1) := by decide +kernel
theorem dX8_haste_40 : decode cX8_haste 40 = .ok (.astore_n 3, 1) := by decide +kernel
theorem dX8_haste_41 : decode cX8_haste 41 = .ok (.aload_n 3, 1) := by decide +kernel
theorem dX8_haste_42 : decode cX8_haste 42 = .ok (.aload_n 0, 1) := by decide +kernel
theorem dX8_haste_43 : decode cX8_haste 43 = .ok (.getfield 20, 3) := by decide +kernel
theorem dX8_haste_46 : decode cX8_haste 46 = .ok (.getfield 130, 3) := by decide +kernel
theorem dX8_haste_49 : decode cX8_haste 49 = .ok (.aload_n 3, 1) := by decide +kernel
theorem dX8_haste_50 : decode cX8_haste 50 = .ok (.getfield 142, 3) := by decide +kernel
theorem dX8_haste_53 : decode cX8_haste 53 = .ok (.iload_n 2, 1) := by decide +kernel
theorem dX8_haste_54 : decode cX8_haste 54 = .ok (.invokevirtual 145, 3) := by decide +kernel
theorem dX8_haste_57 : decode cX8_haste 57 = .ok (.invokevirtual 148, 3) := by decide +kernel
theorem dX8_haste_60 : decode cX8_haste 60 = .ok (.ireturn, 1) := by decide +kernel
theorem dX8_go_0 : decode cX8_go 0 = .ok (.aload_n 0, 1) := by decide +kernel
theorem dX8_go_1 : decode cX8_go 1 = .ok (.getfield 20, 3) := by decide +kernel
theorem dX8_go_4 : decode cX8_go 4 = .ok (.invokevirtual 151, 3) := by decide +kernel
theorem dX8_go_7 : decode cX8_go 7 = .ok (.ifCond .eq 14, 3) := by decide +kernel
theorem dX8_go_10 : decode cX8_go 10 = .ok (.iload_n 1, 1) := by decide +kernel
theorem dX8_go_11 : decode cX8_go 11 = .ok (.iconst 1, 1) := by decide +kernel
theorem dX8_go_12 : decode cX8_go 12 = .ok (.sipush 300, 3) := by decide +kernel
theorem dX8_go_15 : decode cX8_go 15 = .ok (.invokestatic 118, 3) := by decide +kernel
theorem dX8_go_18 : decode cX8_go 18 = .ok (.goto 4, 3) := by decide +kernel
theorem dX8_go_21 : decode cX8_go 21 = .ok (.iconst 3, 1) := by decide +kernel
theorem dX8_go_22 : decode cX8_go 22 = .ok (.istore_n 2, 1) := by decide +kernel
theorem dX8_go_23 : decode cX8_go 23 = .ok (.iload_n 2, 1) := by decide +kernel
theorem dX8_go_24 : decode cX8_go 24 = .ok (.ifCond .eq 9, 3) := by decide +kernel
theorem dX8_go_27 : decode cX8_go 27 = .ok (.aload_n 0, 1) := by decide +kernel
theorem dX8_go_28 : decode cX8_go 28 = .ok (.iload_n 2, 1) := by decide +kernel
theorem dX8_go_29 : decode cX8_go 29 = .ok (.invokevirtual 54, 3) := by decide +kernel
theorem dX8_go_32 : decode cX8_go 32 = .ok (.ireturn, 1) := by decide +kernel
theorem dX8_go_33 : decode cX8_go 33 = .ok (.iconst 0, 1) := by decide +kernel
theorem dX8_go_34 : decode cX8_go 34 = .ok (.istore_n 3, 1) := by decide +kernel
theorem dX8_go_35 : decode cX8_go 35 = .ok (.iload_n 3, 1) := by decide +kernel
theorem dX8_go_36 : decode cX8_go 36 = .ok (.iload_n 1, 1) := by decide +kernel
theorem dX8_go_37 : decode cX8_go 37 = .ok (.if_icmp .ge 43, 3) := by decide +kernel
theorem dX8_go_40 : decode cX8_go 40 = .ok (.aload_n 0, 1) := by decide +kernel
theorem dX8_go_41 : decode cX8_go 41 = .ok (.getfield 20, 3) := by decide +kernel
theorem dX8_go_44 : decode cX8_go 44 = .ok (.invokevirtual 155, 3) := by decide +kernel
theorem dX8_go_47 : decode cX8_go 47 = .ok (.ifCond .eq 27, 3) := by decide +kernel
theorem dX8_go_50 : decode cX8_go 50 = .ok (.aload_n 0, 1) := by decide +kernel
theorem dX8_go_51 : decode cX8_go 51 = .ok (.getfield 20, 3) := by decide +kernel
theorem dX8_go_54 : decode cX8_go 54 = .ok (.invokevirtual 158, 3) := by decide +kernel
theorem dX8_go_57 : decode cX8_go 57 = .ok (.pop, 1) := by decide +kernel
theorem dX8_go_58 : decode cX8_go 58 = .ok (.aload_n 0, 1) := by decide +kernel
theorem dX8_go_59 : decode cX8_go 59 = .ok (.getfield 20, 3) := by decide +kernel
theorem dX8_go_62 : decode cX8_go 62 = .ok (.getfield 162, 3) := by decide +kernel
theorem dX8_go_65 : decode cX8_go 65 = .ok (.ifCond .eq 7, 3) := by decide +kernel
theorem dX8_go_68 : decode cX8_go 68 = .ok (.iconst 2, 1) := by decide +kernel
theorem dX8_go_69 : decode cX8_go 69 = .ok (.goto 4, 3) := by decide +kernel
theorem dX8_go_72 : decode cX8_go 72 = .ok (.iconst 1, 1) := by decide +kernel
theorem dX8_go_73 : decode cX8_go 73 = .ok (.ireturn, 1) := by decide +kernel
theorem dX8_go_74 : decode cX8_go 74 = .ok (.iinc 3 1, 3) := by decide +kernel
theorem dX8_go_77 : decode cX8_go 77 = .ok (.goto (-42), 3) := by decide +kernel
theorem dX8_go_80 : decode cX8_go 80 = .ok (.iconst 0, 1) := by decide +kernel
theorem dX8_go_81 : decode cX8_go 81 = .ok (.ireturn, 1) := by decide +kernel
theorem dX8_stop_0 : decode cX8_stop 0 = .ok (.aload_n 0, 1) := by decide +kernel
theorem dX8_stop_1 : decode cX8_stop 1 = .ok (.getfield 20, 3) := by decide +kernel
theorem dX8_stop_4 : decode cX8_stop 4 = .ok (.invokevirtual 151, 3) := by decide +kernel
theorem dX8_stop_7 : decode cX8_stop 7 = .ok (.ifCond .eq 13, 3) := by decide +kernel
theorem dX8_stop_10 : decode cX8_stop 10 = .ok (.aload_n 0, 1) := by decide +kernel
theorem dX8_stop_11 : decode cX8_stop 11 = .ok (.getfield 20, 3) := by decide +kernel
theorem dX8_stop_14 : decode cX8_stop 14 = .ok (.invokevirtual 158, 3) := by decide +kernel
theorem dX8_stop_17 : decode cX8_stop 17 = .ok (.goto 8, 3) := by decide +kernel
theorem dX8_stop_20 : decode cX8_stop 20 = .ok (.aload_n 0, 1) := by decide +kernel
theorem dX8_stop_21 : decode cX8_stop 21 = .ok (.iconst 3, 1) := by decide +kernel
theorem dX8_stop_22 : decode cX8_stop 22 = .ok (.invokevirtual 54, 3) := by decide +kernel
theorem dX8_stop_25 : decode cX8_stop 25 = .ok (.ireturn, 1) := by decide +kernel
theorem dX8_sits_0 : decode cX8_sits 0 = .ok (.aload_n 0, 1) := by decide +kernel
theorem dX8_sits_1 : decode cX8_sits 1 = .ok (.getfield 20, 3) := by decide +kernel
theorem dX8_sits_4 : decode cX8_sits 4 = .ok (.iload_n 1, 1) := by decide +kernel
theorem dX8_sits_5 : decode cX8_sits 5 = .ok (.invokevirtual 165, 3) := by decide +kernel
theorem dX8_sits_8 : decode cX8_sits 8 = .ok (.ifCond .ne 9, 3) := by decide +kernel
theorem dX8_sits_11 : decode cX8_sits 11 = .ok (.aload_n 0, 1) := by decide +kernel
theorem dX8_sits_12 : decode cX8_sits 12 = .ok (.iconst 1, 1) := by decide +kernel
theorem dX8_sits_13 : decode cX8_sits 13 = .ok (.invokevirtual 54, 3) := by decide +kernel
theorem dX8_sits_16 : decode cX8_sits 16 = .ok (.ireturn, 1) := by decide +kernel
theorem dX8_sits_17 : decode cX8_sits 17 = .ok (.aload_n 0, 1) := by decide +kernel
theorem dX8_sits_18 : decode cX8_sits 18 = .ok (.getfield 20, 3) := by decide +kernel
theorem dX8_sits_21 : decode cX8_sits 21 = .ok (.getfield 168, 3) := by decide +kernel
theorem dX8_sits_24 : decode cX8_sits 24 = .ok (.aload_n 0, 1) := by decide +kernel
theorem dX8_sits_25 : decode cX8_sits 25 = .ok (.getfield 20, 3) := by decide +kernel
theorem dX8_sits_28 : decode cX8_sits 28 = .ok (.invokevirtual 172, 3) := by decide +kernel
theorem dX8_sits_31 : decode cX8_sits 31 = .ok (.aload_n 0, 1) := by decide +kernel
theorem dX8_sits_32 : decode cX8_sits 32 = .ok (.getfield 20, 3) := by decide +kernel
theorem dX8_sits_35 : decode cX8_sits 35 = .ok (.getfield 168, 3) := by decide +kernel
theorem dX8_sits_38 : decode cX8_sits 38 = .ok (.iload_n 1, 1) := by decide +kernel
theorem dX8_sits_39 : decode cX8_sits 39 = .ok (.aload_n 0, 1) := by decide +kernel
theorem dX8_sits_40 : decode cX8_sits 40 = .ok (.getfield 20, 3) := by decide +kernel
theorem dX8_sits_43 : decode cX8_sits 43 = .ok (.getfield 130, 3) := by decide +kernel
theorem dX8_sits_46 : decode cX8_sits 46 = .ok (.invokevirtual 178, 3) := by decide +kernel
theorem dX8_sits_49 : decode cX8_sits 49 = .ok (.ireturn, 1) := by decide +kernel
theorem dX8_would_0 : decode cX8_would 0 = .ok (.iload_n 1, 1) := by decide +kernel
theorem dX8_would_1 : decode cX8_would 1 = .ok (.ifCond .lt 8, 3) := by decide +kernel
theorem dX8_would_4 : decode cX8_would 4 = .ok (.iload_n 1, 1) := by decide +kernel
theorem dX8_would_5 : decode cX8_would 5 = .ok (.iconst 1, 1) := by decide +kernel
theorem dX8_would_6 : decode cX8_would 6 = .ok (.if_icmp .le 9, 3) := by decide +kernel
theorem dX8_would_9 : decode cX8_would 9 = .ok (.aload_n 0, 1) := by decide +kernel
theorem dX8_would_10 : decode cX8_would 10 = .ok (.iconst 2, 1) := by decide +kernel
theorem dX8_would_11 : decode cX8_would 11 = .ok (.invokevirtual 54, 3) := by decide +kernel
theorem dX8_would_14 : decode cX8_would 14 = .ok (.ireturn, 1) := by decide +kernel
theorem dX8_would_15 : decode cX8_would 15 = .ok (.aload_n 0, 1) := by decide +kernel
theorem dX8_would_16 : decode cX8_would 16 = .ok (.getfield 20, 3) := by decide +kernel
theorem dX8_would_19 : decode cX8_would 19 = .ok (.getfield 168, 3) := by decide +kernel
theorem dX8_would_22 : decode cX8_would 22 = .ok (.aload_n 0, 1) := by decide +kernel
theorem dX8_would_23 : decode cX8_would 23 = .ok (.getfield 20, 3) := by decide +kernel
theorem dX8_would_26 : decode cX8_would 26 = .ok (.invokevirtual 172, 3) := by decide +kernel
theorem dX8_would_29 : decode cX8_would 29 = .ok (.aload_n 0, 1) := by decide +kernel
theorem dX8_would_30 : decode cX8_would 30 = .ok (.getfield 20, 3) := by decide +kernel
theorem dX8_would_33 : decode cX8_would 33 = .ok (.invokevirtual 182, 3) := by decide +kernel
theorem dX8_would_36 : decode cX8_would 36 = .ok (.istore_n 2, 1) := by decide +kernel
theorem dX8_would_37 : decode cX8_would 37 = .ok (.iload_n 1, 1) := by decide +kernel
theorem dX8_would_38 : decode cX8_would 38 = .ok (.ifCond .ne 5, 3) := by decide +kernel
theorem dX8_would_41 : decode cX8_would 41 = .ok (.iload_n 2, 1) := by decide +kernel
theorem dX8_would_42 : decode cX8_would 42 = .ok (.ireturn, 1) := by decide +kernel
theorem dX8_would_43 : decode cX8_would 43 = .ok (.aload_n 0, 1) := by decide +kernel
theorem dX8_would_44 : decode cX8_would 44 = .ok (.getfield 20, 3) := by decide +kernel
theorem dX8_would_47 : decode cX8_would 47 = .ok (.iload_n 2, 1) := by decide +kernel
theorem dX8_would_48 : decode cX8_would 48 = .ok (.invokevirtual 185, 3) := by decide +kernel
theorem dX8_would_51 : decode cX8_would 51 = .ok (.ifCond .eq 23, 3) := by decide +kernel
theorem dX8_would_54 : decode cX8_would 54 = .ok (.aload_n 0, 1) := by decide +kernel
theorem dX8_would_55 : decode cX8_would 55 = .ok (.getfield 20, 3) := by decide +kernel
theorem dX8_would_58 : decode cX8_would 58 = .ok (.getfield 130, 3) := by decide +kernel
theorem dX8_would_61 : decode cX8_would 61 = .ok (.aload_n 0, 1) := by decide +kernel
theorem dX8_would_62 : decode cX8_would 62 = .ok (.getfield 20, 3) := by decide +kernel
theorem dX8_would_65 : decode cX8_would 65 = .ok (.getfield 121, 3) := by decide +kernel
theorem dX8_would_68 : decode cX8_would 68 = .ok (.invokevirtual 188, 3) := by decide +kernel
theorem dX8_would_71 : decode cX8_would 71 = .ok (.goto 5, 3) := by decide +kernel
theorem dX8_would_74 : decode cX8_would 74 = .ok (.bipush (-9), 2) := by decide +kernel
theorem dX8_would_76 : decode cX8_would 76 = .ok (.ireturn, 1) := by decide +kernel
theorem dX8_odds_0 : decode cX8_odds 0 = .ok (.aload_n 0, 1) := by decide +kernel
theorem dX8_odds_1 : decode cX8_odds 1 = .ok (.getfield 20, 3) := by decide +kernel
theorem dX8_odds_4 : decode cX8_odds 4 = .ok (.iload_n 1, 1) := by decide +kernel
theorem dX8_odds_5 : decode cX8_odds 5 = .ok (.invokevirtual 165, 3) := by decide +kernel
theorem dX8_odds_8 : decode cX8_odds 8 = .ok (.ifCond .eq 14, 3) := by decide +kernel
theorem dX8_odds_11 : decode cX8_odds 11 = .ok (.iload_n 2, 1) := by decide +kernel
theorem dX8_odds_12 : decode cX8_odds 12 = .ok (.iconst 1, 1) := by decide +kernel
theorem dX8_odds_13 : decode cX8_odds 13 = .ok (.sipush 200, 3) := by decide +kernel
theorem dX8_odds_16 : decode cX8_odds 16 = .ok (.invokestatic 118, 3) := by decide +kernel
theorem dX8_odds_19 : decode cX8_odds 19 = .ok (.goto 4, 3) := by decide +kernel
theorem dX8_odds_22 : decode cX8_odds 22 = .ok (.iconst 1, 1) := by decide +kernel
theorem dX8_odds_23 : decode cX8_odds 23 = .ok (.istore_n 3, 1) := by decide +kernel
theorem dX8_odds_24 : decode cX8_odds 24 = .ok (.iload_n 3, 1) := by decide +kernel
theorem dX8_odds_25 : decode cX8_odds 25 = .ok (.ifCond .eq 11, 3) := by decide +kernel
theorem dX8_odds_28 : decode cX8_odds 28 = .ok (.aload_n 0, 1) := by decide +kernel
theorem dX8_odds_29 : decode cX8_odds 29 = .ok (.iload_n 3, 1) := by decide +kernel
theorem dX8_odds_30 : decode cX8_odds 30 = .ok (.invokevirtual 54, 3) := by decide +kernel
theorem dX8_odds_33 : decode cX8_odds 33 = .ok (.goto 24, 3) := by decide +kernel
theorem dX8_odds_36 : decode cX8_odds 36 = .ok (.aload_n 0, 1) := by decide +kernel
theorem dX8_odds_37 : decode cX8_odds 37 = .ok (.getfield 10, 3) := by decide +kernel
theorem dX8_odds_40 : decode cX8_odds 40 = .ok (.iload_n 1, 1) := by decide +kernel
theorem dX8_odds_41 : decode cX8_odds 41 = .ok (.iload_n 2, 1) := by decide +kernel
theorem dX8_odds_42 : decode cX8_odds 42 = .ok (.aload_n 0, 1) := by decide +kernel
theorem dX8_odds_43 : decode cX8_odds 43 = .ok (.getfield 20, 3) := by decide +kernel
theorem dX8_odds_46 : decode cX8_odds 46 = .ok (.getfield 93, 3) := by decide +kernel
theorem dX8_odds_49 : decode cX8_odds 49 = .ok (.iload_n 1, 1) := by decide +kernel
theorem dX8_odds_50 : decode cX8_odds 50 = .ok (.aaload, 1) := by decide +kernel
theorem dX8_odds_51 : decode cX8_odds 51 = .ok (.getfield 191, 3) := by decide +kernel
theorem dX8_odds_54 : decode cX8_odds 54 = .ok (.invokevirtual 194, 3) := by decide +kernel
theorem dX8_odds_57 : decode cX8_odds 57 = .ok (.ireturn, 1) := by decide +kernel
theorem dX8_fair_0 : decode cX8_fair 0 = .ok (.iload_n 1, 1) := by decide +kernel
theorem dX8_fair_1 : decode cX8_fair 1 = .ok (.iconst 1, 1) := by decide +kernel
theorem dX8_fair_2 : decode cX8_fair 2 = .ok (.sipush 200, 3) := by decide +kernel
theorem dX8_fair_5 : decode cX8_fair 5 = .ok (.invokestatic 118, 3) := by decide +kernel
theorem dX8_fair_8 : decode cX8_fair 8 = .ok (.istore_n 2, 1) := by decide +kernel
theorem dX8_fair_9 : decode cX8_fair 9 = .ok (.iload_n 2, 1) := by decide +kernel
theorem dX8_fair_10 : decode cX8_fair 10 = .ok (.ifCond .eq 11, 3) := by decide +kernel
theorem dX8_fair_13 : decode cX8_fair 13 = .ok (.aload_n 0, 1) := by decide +kernel
theorem dX8_fair_14 : decode cX8_fair 14 = .ok (.iload_n 2, 1) := by decide +kernel
theorem dX8_fair_15 : decode cX8_fair 15 = .ok (.invokevirtual 54, 3) := by decide +kernel
theorem dX8_fair_18 : decode cX8_fair 18 = .ok (.goto 11, 3) := by decide +kernel
theorem dX8_fair_21 : decode cX8_fair 21 = .ok (.aload_n 0, 1) := by decide +kernel
theorem dX8_fair_22 : decode cX8_fair 22 = .ok (.getfield 10, 3) := by decide +kernel
theorem dX8_fair_25 : decode cX8_fair 25 = .ok (.iload_n 1, 1) := by decide +kernel
theorem dX8_fair_26 : decode cX8_fair 26 = .ok (.invokevirtual 197, 3) := by decide +kernel
theorem dX8_fair_29 : decode cX8_fair 29 = .ok (.ireturn, 1) := by decide +kernel
theorem dX8_bestSlow_0 : decode cX8_bestSlow 0 = .ok (.aload_n 0, 1) := by decide +kernel
theorem dX8_bestSlow_1 : decode cX8_bestSlow 1 = .ok (.getfield 20, 3) := by decide +kernel
theorem dX8_bestSlow_4 : decode cX8_bestSlow 4 = .ok (.iload_n 1, 1) := by decide +kernel
theorem dX8_bestSlow_5 : decode cX8_bestSlow 5 = .ok (.invokevirtual 83, 3) := by decide +kernel
theorem dX8_bestSlow_8 : decode cX8_bestSlow 8 = .ok (.ifCond .eq 14, 3) := by decide +kernel
theorem dX8_bestSlow_11 : decode cX8_bestSlow 11 = .ok (.iload_n 2, 1) := by decide +kernel
theorem dX8_bestSlow_12 : decode cX8_bestSlow 12 = .ok (.iconst 1, 1) := by decide +kernel
theorem dX8_bestSlow_13 : decode cX8_bestSlow 13 = .ok (.sipush 200, 3) := by decide +kernel
theorem dX8_bestSlow_16 : decode cX8_bestSlow 16 = .ok (.invokestatic 118, 3) := by decide +kernel
theorem dX8_bestSlow_19 : decode cX8_bestSlow 19 = .ok (.goto 4, 3) := by decide +kernel
theorem dX8_bestSlow_22 : decode cX8_bestSlow 22 = .ok (.iconst 1, 1) := by decide +kernel
theorem dX8_bestSlow_23 : decode cX8_bestSlow 23 = .ok (.istore_n 3, 1) := by decide +kernel
theorem dX8_bestSlow_24 : decode cX8_bestSlow 24 = .ok (.iload_n 3, 1) := by decide +kernel
theorem dX8_bestSlow_25 : decode cX8_bestSlow 25 = .ok (.ifCond .eq 11, 3) := by decide +kernel
theorem dX8_bestSlow_28 : decode cX8_bestSlow 28 = .ok (.aload_n 0, 1) := by decide +kernel
theorem dX8_bestSlow_29 : decode cX8_bestSlow 29 = .ok (.iload_n 3, 1) := by decide +kernel
theorem dX8_bestSlow_30 : decode cX8_bestSlow 30 = .ok (.invokevirtual 54, 3) := by decide +kernel
theorem dX8_bestSlow_33 : decode cX8_bestSlow 33 = .ok (.goto 12, 3) := by decide +kernel
theorem dX8_bestSlow_36 : decode cX8_bestSlow 36 = .ok (.aload_n 0, 1) := by decide +kernel
theorem dX8_bestSlow_37 : decode cX8_bestSlow 37 = .ok (.getfield 10, 3) := by decide +kernel
theorem dX8_bestSlow_40 : decode cX8_bestSlow 40 = .ok (.iload_n 1, 1) := by decide +kernel
theorem dX8_bestSlow_41 : decode cX8_bestSlow 41 = .ok (.iload_n 2, 1) := by decide +kernel
theorem dX8_bestSlow_42 : decode cX8_bestSlow 42 = .ok (.invokevirtual 200, 3) := by decide +kernel
theorem dX8_bestSlow_45 : decode cX8_bestSlow 45 = .ok (.ireturn, 1) := by decide +kernel
theorem dX8_cheat_0 : decode cX8_cheat 0 = .ok (.aload_n 0, 1) := by decide +kernel
theorem dX8_cheat_1 : decode cX8_cheat 1 = .ok (.getfield 20, 3) := by decide +kernel
theorem dX8_cheat_4 : decode cX8_cheat 4 = .ok (.iload_n 1, 1) := by decide +kernel
theorem dX8_cheat_5 : decode cX8_cheat 5 = .ok (.invokevirtual 83, 3) := by decide +kernel
theorem dX8_cheat_8 : decode cX8_cheat 8 = .ok (.ifCond .eq 14, 3) := by decide +kernel
theorem dX8_cheat_11 : decode cX8_cheat 11 = .ok (.iload_n 2, 1) := by decide +kernel
theorem dX8_cheat_12 : decode cX8_cheat 12 = .ok (.iconst 1, 1) := by decide +kernel
theorem dX8_cheat_13 : decode cX8_cheat 13 = .ok (.sipush 200, 3) := by decide +kernel
theorem dX8_cheat_16 : decode cX8_cheat 16 = .ok (.invokestatic 118, 3) := by decide +kernel
theorem dX8_cheat_19 : decode cX8_cheat 19 = .ok (.goto 4, 3) := by decide +kernel
theorem dX8_cheat_22 : decode cX8_cheat 22 = .ok (.iconst 1, 1) := by decide +kernel
theorem dX8_cheat_23 : decode cX8_cheat 23 = .ok (.istore_n 3, 1) := by decide +kernel
theorem dX8_cheat_24 : decode cX8_cheat 24 = .ok (.iload_n 3, 1) := by decide +kernel
theorem dX8_cheat_25 : decode cX8_cheat 25 = .ok (.ifCond .eq 11, 3) := by decide +kernel
theorem dX8_cheat_28 : decode cX8_cheat 28 = .ok (.aload_n 0, 1) := by decide +kernel
theorem dX8_cheat_29 : decode cX8_cheat 29 = .ok (.iload_n 3, 1) := by decide +kernel
theorem dX8_cheat_30 : decode cX8_cheat 30 = .ok (.invokevirtual 54, 3) := by decide +kernel
theorem dX8_cheat_33 : decode cX8_cheat 33 = .ok (.goto 12, 3) := by decide +kernel
theorem dX8_cheat_36 : decode cX8_cheat 36 = .ok (.aload_n 0, 1) := by decide +kernel
theorem dX8_cheat_37 : decode cX8_cheat 37 = .ok (.getfield 10, 3) := by decide +kernel
theorem dX8_cheat_40 : decode cX8_cheat 40 = .ok (.iload_n 1, 1) := by decide +kernel
theorem dX8_cheat_41 : decode cX8_cheat 41 = .ok (.iload_n 2, 1) := by decide +kernel
theorem dX8_cheat_42 : decode cX8_cheat 42 = .ok (.invokevirtual 203, 3) := by decide +kernel
theorem dX8_cheat_45 : decode cX8_cheat 45 = .ok (.ireturn, 1) := by decide +kernel
theorem dX8_lasts_0 : decode cX8_lasts 0 = .ok (.iload_n 1, 1) := by decide +kernel
theorem dX8_lasts_1 : decode cX8_lasts 1 = .ok (.ifCond .lt 8, 3) := by decide +kernel
theorem dX8_lasts_4 : decode cX8_lasts 4 = .ok (.iload_n 1, 1) := by decide +kernel
theorem dX8_lasts_5 : decode cX8_lasts 5 = .ok (.iconst 2, 1) := by decide +kernel
theorem dX8_lasts_6 : decode cX8_lasts 6 = .ok (.if_icmp .le 9, 3) := by decide +kernel
theorem dX8_lasts_9 : decode cX8_lasts 9 = .ok (.aload_n 0, 1) := by decide +kernel
theorem dX8_lasts_10 : decode cX8_lasts 10 = .ok (.iconst 2, 1) := by decide +kernel
theorem dX8_lasts_11 : decode cX8_lasts 11 = .ok (.invokevirtual 54, 3) := by decide +kernel
theorem dX8_lasts_14 : decode cX8_lasts 14 = .ok (.ireturn, 1) := by decide +kernel
theorem dX8_lasts_15 : decode cX8_lasts 15 = .ok (.aload_n 0, 1) := by decide +kernel
theorem dX8_lasts_16 : decode cX8_lasts 16 = .ok (.getfield 20, 3) := by decide +kernel
theorem dX8_lasts_19 : decode cX8_lasts 19 = .ok (.invokevirtual 151, 3) := by decide +kernel
theorem dX8_lasts_22 : decode cX8_lasts 22 = .ok (.ifCond .eq 14, 3) := by decide +kernel
theorem dX8_lasts_25 : decode cX8_lasts 25 = .ok (.aload_n 0, 1) := by decide +kernel
theorem dX8_lasts_26 : decode cX8_lasts 26 = .ok (.getfield 10, 3) := by decide +kernel
theorem dX8_lasts_29 : decode cX8_lasts 29 = .ok (.iload_n 1, 1) := by decide +kernel
theorem dX8_lasts_30 : decode cX8_lasts 30 = .ok (.invokevirtual 206, 3) := by decide +kernel
theorem dX8_lasts_33 : decode cX8_lasts 33 = .ok (.goto 8, 3) := by decide +kernel
theorem dX8_lasts_36 : decode cX8_lasts 36 = .ok (.aload_n 0, 1) := by decide +kernel
theorem dX8_lasts_37 : decode cX8_lasts 37 = .ok (.iconst 3, 1) := by decide +kernel
theorem dX8_lasts_38 : decode cX8_lasts 38 = .ok (.invokevirtual 54, 3) := by decide +kernel
theorem dX8_lasts_41 : decode cX8_lasts 41 = .ok (.ireturn, 1) := by decide +kernel
theorem dX8_wins_0 : decode cX8_wins 0 = .ok (.aload_n 0, 1) := by decide +kernel
theorem dX8_wins_1 : decode cX8_wins 1 = .ok (.getfield 20, 3) := by decide +kernel
theorem dX8_wins_4 : decode cX8_wins 4 = .ok (.iload_n 1, 1) := by decide +kernel
theorem dX8_wins_5 : decode cX8_wins 5 = .ok (.invokevirtual 83, 3) := by decide +kernel
theorem dX8_wins_8 : decode cX8_wins 8 = .ok (.ifCond .eq 11, 3) := by decide +kernel
theorem dX8_wins_11 : decode cX8_wins 11 = .ok (.aload_n 0, 1) := by decide +kernel
theorem dX8_wins_12 : decode cX8_wins 12 = .ok (.iload_n 2, 1) := by decide +kernel
theorem dX8_wins_13 : decode cX8_wins 13 = .ok (.invokevirtual 209, 3) := by decide +kernel
theorem dX8_wins_16 : decode cX8_wins 16 = .ok (.goto 4, 3) := by decide +kernel
theorem dX8_wins_19 : decode cX8_wins 19 = .ok (.iconst 1, 1) := by decide +kernel
theorem dX8_wins_20 : decode cX8_wins 20 = .ok (.istore 4, 2) := by decide +kernel
theorem dX8_wins_22 : decode cX8_wins 22 = .ok (.iload 4, 2) := by decide +kernel
theorem dX8_wins_24 : decode cX8_wins 24 = .ok (.ifCond .eq 12, 3) := by decide +kernel
theorem dX8_wins_27 : decode cX8_wins 27 = .ok (.aload_n 0, 1) := by decide +kernel
theorem dX8_wins_28 : decode cX8_wins 28 = .ok (.iload 4, 2) := by decide +kernel
theorem dX8_wins_30 : decode cX8_wins 30 = .ok (.invokevirtual 54, 3) := by decide +kernel
theorem dX8_wins_33 : decode cX8_wins 33 = .ok (.goto 13, 3) := by decide +kernel
theorem dX8_wins_36 : decode cX8_wins 36 = .ok (.aload_n 0, 1) := by decide +kernel
theorem dX8_wins_37 : decode cX8_wins 37 = .ok (.getfield 10, 3) := by decide +kernel
theorem dX8_wins_40 : decode cX8_wins 40 = .ok (.iload_n 1, 1) := by decide +kernel
theorem dX8_wins_41 : decode cX8_wins 41 = .ok (.iload_n 2, 1) := by decide +kernel
theorem dX8_wins_42 : decode cX8_wins 42 = .ok (.iload_n 3, 1) := by decide +kernel
theorem dX8_wins_43 : decode cX8_wins 43 = .ok (.invokevirtual 212, 3) := by decide +kernel
theorem dX8_wins_46 : decode cX8_wins 46 = .ok (.ireturn, 1) := by decide +kernel
theorem dX8_fairest_0 : decode cX8_fairest 0 = .ok (.aload_n 0, 1) := by decide +kernel
theorem dX8_fairest_1 : decode cX8_fairest 1 = .ok (.iload_n 1, 1) := by decide +kernel
theorem dX8_fairest_2 : decode cX8_fairest 2 = .ok (.invokevirtual 209, 3) := by decide +kernel
theorem dX8_fairest_5 : decode cX8_fairest 5 = .ok (.istore_n 3, 1) := by decide +kernel
theorem dX8_fairest_6 : decode cX8_fairest 6 = .ok (.iload_n 3, 1) := by decide +kernel
theorem dX8_fairest_7 : decode cX8_fairest 7 = .ok (.ifCond .eq 11, 3) := by decide +kernel
theorem dX8_fairest_10 : decode cX8_fairest 10 = .ok (.aload_n 0, 1) := by decide +kernel
theorem dX8_fairest_11 : decode cX8_fairest 11 = .ok (.iload_n 3, 1) := by decide +kernel
theorem dX8_fairest_12 : decode cX8_fairest 12 = .ok (.invokevirtual 54, 3) := by decide +kernel
theorem dX8_fairest_15 : decode cX8_fairest 15 = .ok (.goto 12, 3) := by decide +kernel
theorem dX8_fairest_18 : decode cX8_fairest 18 = .ok (.aload_n 0, 1) := by decide +kernel
theorem dX8_fairest_19 : decode cX8_fairest 19 = .ok (.getfield 10, 3) := by decide +kernel
theorem dX8_fairest_22 : decode cX8_fairest 22 = .ok (.iload_n 1, 1) := by decide +kernel
theorem dX8_fairest_23 : decode cX8_fairest 23 = .ok (.iload_n 2, 1) := by decide +kernel
theorem dX8_fairest_24 : decode cX8_fairest 24 = .ok (.invokevirtual 215, 3) := by decide +kernel
theorem dX8_fairest_27 : decode cX8_fairest 27 = .ok (.ireturn, 1) := by decide +kernel
theorem dX8_shortest_0 : decode cX8_shortest 0 = .ok (.aload_n 0, 1) := by decide +kernel
theorem dX8_shortest_1 : decode cX8_shortest 1 = .ok (.getfield 20, 3) := by decide +kernel
theorem dX8_shortest_4 : decode cX8_shortest 4 = .ok (.invokevirtual 151, 3) := by decide +kernel
theorem dX8_shortest_7 : decode cX8_shortest 7 = .ok (.ifCond .eq 13, 3) := by decide +kernel
theorem dX8_shortest_10 : decode cX8_shortest 10 = .ok (.aload_n 0, 1) := by decide +kernel
theorem dX8_shortest_11 : decode cX8_shortest 11 = .ok (.getfield 10, 3) := by decide +kernel
theorem dX8_shortest_14 : decode cX8_shortest 14 = .ok (.invokevirtual 218, 3) := by decide +kernel
theorem dX8_shortest_17 : decode cX8_shortest 17 = .ok (.goto 8, 3) := by decide +kernel
theorem dX8_shortest_20 : decode cX8_shortest 20 = .ok (.aload_n 0, 1) := by decide +kernel
theorem dX8_shortest_21 : decode cX8_shortest 21 = .ok (.iconst 3, 1) := by decide +kernel
theorem dX8_shortest_22 : decode cX8_shortest 22 = .ok (.invokevirtual 54, 3) := by decide +kernel
theorem dX8_shortest_25 : decode cX8_shortest 25 = .ok (.ireturn, 1) := by decide +kernel
theorem dX8_row_0 : decode cX8_row 0 = .ok (.iload_n 1, 1) := by decide +kernel
theorem dX8_row_1 : decode cX8_row 1 = .ok (.iconst 1, 1) := by decide +kernel
theorem dX8_row_2 : decode cX8_row 2 = .ok (.sipush 300, 3) := by decide +kernel
theorem dX8_row_5 : decode cX8_row 5 = .ok (.invokestatic 118, 3) := by decide +kernel
theorem dX8_row_8 : decode cX8_row 8 = .ok (.istore_n 2, 1) := by decide +kernel
theorem dX8_row_9 : decode cX8_row 9 = .ok (.iload_n 2, 1) := by decide +kernel
theorem dX8_row_10 : decode cX8_row 10 = .ok (.ifCond .ne 16, 3) := by decide +kernel
theorem dX8_row_13 : decode cX8_row 13 = .ok (.aload_n 0, 1) := by decide +kernel
theorem dX8_row_14 : decode cX8_row 14 = .ok (.getfield 32, 3) := by decide +kernel
theorem dX8_row_17 : decode cX8_row 17 = .ok (.invokevirtual 221, 3) := by decide +kernel
theorem dX8_row_20 : decode cX8_row 20 = .ok (.ifCond .eq 6, 3) := by decide +kernel
theorem dX8_row_23 : decode cX8_row 23 = .ok (.bipush 6, 2) := by decide +kernel
theorem dX8_row_25 : decode cX8_row 25 = .ok (.istore_n 2, 1) := by decide +kernel
theorem dX8_row_26 : decode cX8_row 26 = .ok (.iload_n 2, 1) := by decide +kernel
theorem dX8_row_27 : decode cX8_row 27 = .ok (.ifCond .eq 11, 3) := by decide +kernel
theorem dX8_row_30 : decode cX8_row 30 = .ok (.aload_n 0, 1) := by decide +kernel
theorem dX8_row_31 : decode cX8_row 31 = .ok (.iload_n 2, 1) := by decide +kernel
theorem dX8_row_32 : decode cX8_row 32 = .ok (.invokevirtual 54, 3) := by decide +kernel
theorem dX8_row_35 : decode cX8_row 35 = .ok (.goto 11, 3) := by decide +kernel
theorem dX8_row_38 : decode cX8_row 38 = .ok (.aload_n 0, 1) := by decide +kernel
theorem dX8_row_39 : decode cX8_row 39 = .ok (.getfield 32, 3) := by decide +kernel
theorem dX8_row_42 : decode cX8_row 42 = .ok (.iload_n 1, 1) := by decide +kernel
theorem dX8_row_43 : decode cX8_row 43 = .ok (.invokevirtual 224, 3) := by decide +kernel
theorem dX8_row_46 : decode cX8_row 46 = .ok (.ireturn, 1) := by decide +kernel
theorem dX8_could_0 : decode cX8_could 0 = .ok (.iconst 0, 1) := by decide +kernel
theorem dX8_could_1 : decode cX8_could 1 = .ok (.istore_n 1, 1) := by decide +kernel
theorem dX8_could_2 : decode cX8_could 2 = .ok (.iconst 0, 1) := by decide +kernel
theorem dX8_could_3 : decode cX8_could 3 = .ok (.istore_n 2, 1) := by decide +kernel
theorem dX8_could_4 : decode cX8_could 4 = .ok (.iload_n 2, 1) := by decide +kernel
theorem dX8_could_5 : decode cX8_could 5 = .ok (.iconst 5, 1) := by decide +kernel
theorem dX8_could_6 : decode cX8_could 6 = .ok (.if_icmp .ge 23, 3) := by decide +kernel
theorem dX8_could_9 : decode cX8_could 9 = .ok (.aload_n 0, 1) := by decide +kernel
theorem dX8_could_10 : decode cX8_could 10 = .ok (.iload_n 2, 1) := by decide +kernel
theorem dX8_could_11 : decode cX8_could 11 = .ok (.invokevirtual 226, 3) := by decide +kernel
theorem dX8_could_14 : decode cX8_could 14 = .ok (.ifCond .eq 9, 3) := by decide +kernel
theorem dX8_could_17 : decode cX8_could 17 = .ok (.iload_n 1, 1) := by decide +kernel
theorem dX8_could_18 : decode cX8_could 18 = .ok (.iconst 1, 1) := by decide +kernel
theorem dX8_could_19 : decode cX8_could 19 = .ok (.iload_n 2, 1) := by decide +kernel
theorem dX8_could_20 : decode cX8_could 20 = .ok (.ishl, 1) := by decide +kernel
theorem dX8_could_21 : decode cX8_could 21 = .ok (.ior, 1) := by decide +kernel
theorem dX8_could_22 : decode cX8_could 22 = .ok (.istore_n 1, 1) := by decide +kernel
theorem dX8_could_23 : decode cX8_could 23 = .ok (.iinc 2 1, 3) := by decide +kernel
theorem dX8_could_26 : decode cX8_could 26 = .ok (.goto (-22), 3) := by decide +kernel
theorem dX8_could_29 : decode cX8_could 29 = .ok (.iload_n 1, 1) := by decide +kernel
theorem dX8_could_30 : decode cX8_could 30 = .ok (.ireturn, 1) := by decide +kernel
theorem dX8_next_0 : decode cX8_next 0 = .ok (.iload_n 1, 1) := by decide +kernel
theorem dX8_next_1 : decode cX8_next 1 = .ok (.iconst 1, 1) := by decide +kernel
theorem dX8_next_2 : decode cX8_next 2 = .ok (.sipush 300, 3) := by decide +kernel
theorem dX8_next_5 : decode cX8_next 5 = .ok (.invokestatic 118, 3) := by decide +kernel
theorem dX8_next_8 : decode cX8_next 8 = .ok (.istore_n 2, 1) := by decide +kernel
theorem dX8_next_9 : decode cX8_next 9 = .ok (.iload_n 2, 1) := by decide +kernel
theorem dX8_next_10 : decode cX8_next 10 = .ok (.ifCond .ne 15, 3) := by decide +kernel
theorem dX8_next_13 : decode cX8_next 13 = .ok (.aload_n 0, 1) := by decide +kernel
theorem dX8_next_14 : decode cX8_next 14 = .ok (.getfield 32, 3) := by decide +kernel
theorem dX8_next_17 : decode cX8_next 17 = .ok (.getfield 229, 3) := by decide +kernel
theorem dX8_next_20 : decode cX8_next 20 = .ok (.ifCond .ne 5, 3) := by decide +kernel
theorem dX8_next_23 : decode cX8_next 23 = .ok (.iconst 3, 1) := by decide +kernel
theorem dX8_next_24 : decode cX8_next 24 = .ok (.istore_n 2, 1) := by decide +kernel
theorem dX8_next_25 : decode cX8_next 25 = .ok (.iload_n 2, 1) := by decide +kernel
theorem dX8_next_26 : decode cX8_next 26 = .ok (.ifCond .eq 9, 3) := by decide +kernel
theorem dX8_next_29 : decode cX8_next 29 = .ok (.aload_n 0, 1) := by decide +kernel
theorem dX8_next_30 : decode cX8_next 30 = .ok (.iload_n 2, 1) := by decide +kernel
theorem dX8_next_31 : decode cX8_next 31 = .ok (.invokevirtual 54, 3) := by decide +kernel
theorem dX8_next_34 : decode cX8_next 34 = .ok (.ireturn, 1) := by decide +kernel
theorem dX8_next_35 : decode cX8_next 35 = .ok (.aload_n 0, 1) := by decide +kernel
theorem dX8_next_36 : decode cX8_next 36 = .ok (.getfield 32, 3) := by decide +kernel
theorem dX8_next_39 : decode cX8_next 39 = .ok (.iload_n 1, 1) := by decide +kernel
theorem dX8_next_40 : decode cX8_next 40 = .ok (.invokevirtual 230, 3) := by decide +kernel
theorem dX8_next_43 : decode cX8_next 43 = .ok (.istore_n 3, 1) := by decide +kernel
theorem dX8_next_44 : decode cX8_next 44 = .ok (.aload_n 0, 1) := by decide +kernel
theorem dX8_next_45 : decode cX8_next 45 = .ok (.getfield 32, 3) := by decide +kernel
theorem dX8_next_48 : decode cX8_next 48 = .ok (.iconst 0, 1) := by decide +kernel
theorem dX8_next_49 : decode cX8_next 49 = .ok (.putfield 229, 3) := by decide +kernel
theorem dX8_next_52 : decode cX8_next 52 = .ok (.iload_n 3, 1) := by decide +kernel
theorem dX8_next_53 : decode cX8_next 53 = .ok (.ireturn, 1) := by decide +kernel
theorem dX8_team_0 : decode cX8_team 0 = .ok (.iload_n 1, 1) := by decide +kernel
theorem dX8_team_1 : decode cX8_team 1 = .ok (.iload_n 2, 1) := by decide +kernel
theorem dX8_team_2 : decode cX8_team 2 = .ok (.if_icmp .eq 25, 3) := by decide +kernel
theorem dX8_team_5 : decode cX8_team 5 = .ok (.aload_n 0, 1) := by decide +kernel
theorem dX8_team_6 : decode cX8_team 6 = .ok (.getfield 20, 3) := by decide +kernel
theorem dX8_team_9 : decode cX8_team 9 = .ok (.iload_n 1, 1) := by decide +kernel
theorem dX8_team_10 : decode cX8_team 10 = .ok (.invokevirtual 165, 3) := by decide +kernel
theorem dX8_team_13 : decode cX8_team 13 = .ok (.ifCond .eq 14, 3) := by decide +kernel
theorem dX8_team_16 : decode cX8_team 16 = .ok (.aload_n 0, 1) := by decide +kernel
theorem dX8_team_17 : decode cX8_team 17 = .ok (.getfield 20, 3) := by decide +kernel
theorem dX8_team_20 : decode cX8_team 20 = .ok (.iload_n 2, 1) := by decide +kernel
theorem dX8_team_21 : decode cX8_team 21 = .ok (.invokevirtual 165, 3) := by decide +kernel
theorem dX8_team_24 : decode cX8_team 24 = .ok (.ifCond .ne 9, 3) := by decide +kernel
theorem dX8_team_27 : decode cX8_team 27 = .ok (.aload_n 0, 1) := by decide +kernel
theorem dX8_team_28 : decode cX8_team 28 = .ok (.iconst 1, 1) := by decide +kernel
theorem dX8_team_29 : decode cX8_team 29 = .ok (.invokevirtual 54, 3) := by decide +kernel
theorem dX8_team_32 : decode cX8_team 32 = .ok (.ireturn, 1) := by decide +kernel
theorem dX8_team_33 : decode cX8_team 33 = .ok (.iload 4, 2) := by decide +kernel
theorem dX8_team_35 : decode cX8_team 35 = .ok (.ifCond .lt 9, 3) := by decide +kernel
theorem dX8_team_38 : decode cX8_team 38 = .ok (.iload 4, 2) := by decide +kernel
theorem dX8_team_40 : decode cX8_team 40 = .ok (.iconst 1, 1) := by decide +kernel
theorem dX8_team_41 : decode cX8_team 41 = .ok (.if_icmp .le 9, 3) := by decide +kernel
theorem dX8_team_44 : decode cX8_team 44 = .ok (.aload_n 0, 1) := by decide +kernel
theorem dX8_team_45 : decode cX8_team 45 = .ok (.iconst 2, 1) := by decide +kernel
theorem dX8_team_46 : decode cX8_team 46 = .ok (.invokevirtual 54, 3) := by decide +kernel
theorem dX8_team_49 : decode cX8_team 49 = .ok (.ireturn, 1) := by decide +kernel
theorem dX8_team_50 : decode cX8_team 50 = .ok (.iload_n 3, 1) := by decide +kernel
theorem dX8_team_51 : decode cX8_team 51 = .ok (.iconst 1, 1) := by decide +kernel
theorem dX8_team_52 : decode cX8_team 52 = .ok (.sipush 200, 3) := by decide +kernel
theorem dX8_team_55 : decode cX8_team 55 = .ok (.invokestatic 118, 3) := by decide +kernel
theorem dX8_team_58 : decode cX8_team 58 = .ok (.istore 5, 2) := by decide +kernel
theorem dX8_team_60 : decode cX8_team 60 = .ok (.iload 5, 2) := by decide +kernel
theorem dX8_team_62 : decode cX8_team 62 = .ok (.ifCond .eq 10, 3) := by decide +kernel
theorem dX8_team_65 : decode cX8_team 65 = .ok (.aload_n 0, 1) := by decide +kernel
theorem dX8_team_66 : decode cX8_team 66 = .ok (.iload 5, 2) := by decide +kernel
theorem dX8_team_68 : decode cX8_team 68 = .ok (.invokevirtual 54, 3) := by decide +kernel
theorem dX8_team_71 : decode cX8_team 71 = .ok (.ireturn, 1) := by decide +kernel
theorem dX8_team_72 : decode cX8_team 72 = .ok (.iload 4, 2) := by decide +kernel
theorem dX8_team_74 : decode cX8_team 74 = .ok (.ifCond .ne 16, 3) := by decide +kernel
theorem dX8_team_77 : decode cX8_team 77 = .ok (.aload_n 0, 1) := by decide +kernel
theorem dX8_team_78 : decode cX8_team 78 = .ok (.getfield 10, 3) := by decide +kernel
theorem dX8_team_81 : decode cX8_team 81 = .ok (.iload_n 1, 1) := by decide +kernel
theorem dX8_team_82 : decode cX8_team 82 = .ok (.iload_n 2, 1) := by decide +kernel
theorem dX8_team_83 : decode cX8_team 83 = .ok (.iload_n 3, 1) := by decide +kernel
theorem dX8_team_84 : decode cX8_team 84 = .ok (.invokevirtual 233, 3) := by decide +kernel
theorem dX8_team_87 : decode cX8_team 87 = .ok (.goto 13, 3) := by decide +kernel
theorem dX8_team_90 : decode cX8_team 90 = .ok (.aload_n 0, 1) := by decide +kernel
theorem dX8_team_91 : decode cX8_team 91 = .ok (.getfield 10, 3) := by decide +kernel
theorem dX8_team_94 : decode cX8_team 94 = .ok (.iload_n 1, 1) := by decide +kernel
theorem dX8_team_95 : decode cX8_team 95 = .ok (.iload_n 2, 1) := by decide +kernel
theorem dX8_team_96 : decode cX8_team 96 = .ok (.iload_n 3, 1) := by decide +kernel
theorem dX8_team_97 : decode cX8_team 97 = .ok (.invokevirtual 236, 3) := by decide +kernel
theorem dX8_team_100 : decode cX8_team 100 = .ok (.ireturn, 1) := by decide +kernel
theorem dX8_film_0 : decode cX8_film 0 = .ok (.aload_n 0, 1) := by decide +kernel
theorem dX8_film_1 : decode cX8_film 1 = .ok (.getfield 20, 3) := by decide +kernel
theorem dX8_film_4 : decode cX8_film 4 = .ok (.getfield 130, 3) := by decide +kernel
theorem dX8_film_7 : decode cX8_film 7 = .ok (.iload_n 1, 1) := by decide +kernel
theorem dX8_film_8 : decode cX8_film 8 = .ok (.invokevirtual 134, 3) := by decide +kernel
theorem dX8_film_11 : decode cX8_film 11 = .ok (.ifCond .ne 9, 3) := by decide +kernel
theorem dX8_film_14 : decode cX8_film 14 = .ok (.aload_n 0, 1) := by decide +kernel
theorem dX8_film_15 : decode cX8_film 15 = .ok (.iconst 1, 1) := by decide +kernel
theorem dX8_film_16 : decode cX8_film 16 = .ok (.invokevirtual 54, 3) := by decide +kernel
theorem dX8_film_19 : decode cX8_film 19 = .ok (.ireturn, 1) := by decide +kernel
theorem dX8_film_20 : decode cX8_film 20 = .ok (.aload_n 0, 1) := by decide +kernel
theorem dX8_film_21 : decode cX8_film 21 = .ok (.getfield 36, 3) := by decide +kernel
theorem dX8_film_24 : decode cX8_film 24 = .ok (.invokevirtual 221, 3) := by decide +kernel
theorem dX8_film_27 : decode cX8_film 27 = .ok (.ifCond .eq 12, 3) := by decide +kernel
theorem dX8_film_30 : decode cX8_film 30 = .ok (.aload_n 0, 1) := by decide +kernel
theorem dX8_film_31 : decode cX8_film 31 = .ok (.bipush 6, 2) := by decide +kernel
theorem dX8_film_33 : decode cX8_film 33 = .ok (.invokevirtual 54, 3) := by decide +kernel
theorem dX8_film_36 : decode cX8_film 36 = .ok (.goto 11, 3) := by decide +kernel
theorem dX8_film_39 : decode cX8_film 39 = .ok (.aload_n 0, 1) := by decide +kernel
theorem dX8_film_40 : decode cX8_film 40 = .ok (.getfield 36, 3) := by decide +kernel
theorem dX8_film_43 : decode cX8_film 43 = .ok (.iload_n 1, 1) := by decide +kernel
theorem dX8_film_44 : decode cX8_film 44 = .ok (.invokevirtual 224, 3) := by decide +kernel
theorem dX8_film_47 : decode cX8_film 47 = .ok (.ireturn, 1) := by decide +kernel
theorem dX8_judge_0 : decode cX8_judge 0 = .ok (.aload_n 0, 1) := by decide +kernel
theorem dX8_judge_1 : decode cX8_judge 1 = .ok (.getfield 20, 3) := by decide +kernel
theorem dX8_judge_4 : decode cX8_judge 4 = .ok (.iload_n 1, 1) := by decide +kernel
theorem dX8_judge_5 : decode cX8_judge 5 = .ok (.invokevirtual 165, 3) := by decide +kernel
theorem dX8_judge_8 : decode cX8_judge 8 = .ok (.ifCond .ne 9, 3) := by decide +kernel
theorem dX8_judge_11 : decode cX8_judge 11 = .ok (.aload_n 0, 1) := by decide +kernel
theorem dX8_judge_12 : decode cX8_judge 12 = .ok (.iconst 1, 1) := by decide +kernel
theorem dX8_judge_13 : decode cX8_judge 13 = .ok (.invokevirtual 54, 3) := by decide +kernel
theorem dX8_judge_16 : decode cX8_judge 16 = .ok (.ireturn, 1) := by decide +kernel
theorem dX8_judge_17 : decode cX8_judge 17 = .ok (.aload_n 0, 1) := by decide +kernel
theorem dX8_judge_18 : decode cX8_judge 18 = .ok (.getfield 10, 3) := by decide +kernel
theorem dX8_judge_21 : decode cX8_judge 21 = .ok (.iload_n 1, 1) := by decide +kernel
theorem dX8_judge_22 : decode cX8_judge 22 = .ok (.aload_n 0, 1) := by decide +kernel
theorem dX8_judge_23 : decode cX8_judge 23 = .ok (.getfield 36, 3) := by decide +kernel
theorem dX8_judge_26 : decode cX8_judge 26 = .ok (.invokevirtual 239, 3) := by decide +kernel
theorem dX8_judge_29 : decode cX8_judge 29 = .ok (.istore_n 2, 1) := by decide +kernel
theorem dX8_judge_30 : decode cX8_judge 30 = .ok (.aload_n 0, 1) := by decide +kernel
theorem dX8_judge_31 : decode cX8_judge 31 = .ok (.getfield 36, 3) := by decide +kernel
theorem dX8_judge_34 : decode cX8_judge 34 = .ok (.iconst 0, 1) := by decide +kernel
theorem dX8_judge_35 : decode cX8_judge 35 = .ok (.putfield 229, 3) := by decide +kernel
theorem dX8_judge_38 : decode cX8_judge 38 = .ok (.iload_n 2, 1) := by decide +kernel
theorem dX8_judge_39 : decode cX8_judge 39 = .ok (.ireturn, 1) := by decide +kernel
theorem dX8_image_0 : decode cX8_image 0 = .ok (.aload_n 0, 1) := by decide +kernel
theorem dX8_image_1 : decode cX8_image 1 = .ok (.getfield 24, 3) := by decide +kernel
theorem dX8_image_4 : decode cX8_image 4 = .ok (.aload_n 0, 1) := by decide +kernel
theorem dX8_image_5 : decode cX8_image 5 = .ok (.getfield 20, 3) := by decide +kernel
theorem dX8_image_8 : decode cX8_image 8 = .ok (.invokevirtual 243, 3) := by decide +kernel
theorem dX8_image_11 : decode cX8_image 11 = .ok (.aload_n 0, 1) := by decide +kernel
theorem dX8_image_12 : decode cX8_image 12 = .ok (.iconst 1, 1) := by decide +kernel
theorem dX8_image_13 : decode cX8_image 13 = .ok (.putfield 50, 3) := by decide +kernel
theorem dX8_image_16 : decode cX8_image 16 = .ok (.aload_n 0, 1) := by decide +kernel
theorem dX8_image_17 : decode cX8_image 17 = .ok (.getfield 24, 3) := by decide +kernel
theorem dX8_image_20 : decode cX8_image 20 = .ok (.getfield 246, 3) := by decide +kernel
theorem dX8_image_23 : decode cX8_image 23 = .ok (.ireturn, 1) := by decide +kernel
theorem dX8_restore_0 : decode cX8_restore 0 = .ok (.aload_n 0, 1) := by decide +kernel
theorem dX8_restore_1 : decode cX8_restore 1 = .ok (.getfield 50, 3) := by decide +kernel
theorem dX8_restore_4 : decode cX8_restore 4 = .ok (.ifCond .ne 9, 3) := by decide +kernel
theorem dX8_restore_7 : decode cX8_restore 7 = .ok (.aload_n 0, 1) := by decide +kernel
theorem dX8_restore_8 : decode cX8_restore 8 = .ok (.iconst 3, 1) := by decide +kernel
theorem dX8_restore_9 : decode cX8_restore 9 = .ok (.invokevirtual 54, 3) := by decide +kernel
theorem dX8_restore_12 : decode cX8_restore 12 = .ok (.ireturn, 1) := by decide +kernel
theorem dX8_restore_13 : decode cX8_restore 13 = .ok (.aload_n 0, 1) := by decide +kernel
theorem dX8_restore_14 : decode cX8_restore 14 = .ok (.getfield 20, 3) := by decide +kernel
theorem dX8_restore_17 : decode cX8_restore 17 = .ok (.aload_n 0, 1) := by decide +kernel
theorem dX8_restore_18 : decode cX8_restore 18 = .ok (.getfield 24, 3) := by decide +kernel
theorem dX8_restore_21 : decode cX8_restore 21 = .ok (.invokevirtual 243, 3) := by decide +kernel
theorem dX8_restore_24 : decode cX8_restore 24 = .ok (.aload_n 0, 1) := by decide +kernel
theorem dX8_restore_25 : decode cX8_restore 25 = .ok (.getfield 20, 3) := by decide +kernel
theorem dX8_restore_28 : decode cX8_restore 28 = .ok (.getfield 246, 3) := by decide +kernel
theorem dX8_restore_31 : decode cX8_restore 31 = .ok (.ireturn, 1) := by decide +kernel
theorem dX8_count_0 : decode cX8_count 0 = .ok (.iload_n 1, 1) := by decide +kernel
theorem dX8_count_1 : decode cX8_count 1 = .ok (.bipush 11, 2) := by decide +kernel
theorem dX8_count_3 : decode cX8_count 3 = .ok (.if_icmp .lt 19, 3) := by decide +kernel
theorem dX8_count_6 : decode cX8_count 6 = .ok (.iload_n 1, 1) := by decide +kernel
theorem dX8_count_7 : decode cX8_count 7 = .ok (.bipush 16, 2) := by decide +kernel
theorem dX8_count_9 : decode cX8_count 9 = .ok (.if_icmp .gt 13, 3) := by decide +kernel
theorem dX8_count_12 : decode cX8_count 12 = .ok (.aload_n 0, 1) := by decide +kernel
theorem dX8_count_13 : decode cX8_count 13 = .ok (.getfield 46, 3) := by decide +kernel
theorem dX8_count_16 : decode cX8_count 16 = .ok (.iload_n 1, 1) := by decide +kernel
theorem dX8_count_17 : decode cX8_count 17 = .ok (.bipush 10, 2) := by decide +kernel
theorem dX8_count_19 : decode cX8_count 19 = .ok (.isub, 1) := by decide +kernel
theorem dX8_count_20 : decode cX8_count 20 = .ok (.iaload, 1) := by decide +kernel
theorem dX8_count_21 : decode cX8_count 21 = .ok (.ireturn, 1) := by decide +kernel
theorem dX8_count_22 : decode cX8_count 22 = .ok (.iload_n 1, 1) := by decide +kernel
theorem dX8_count_23 : decode cX8_count 23 = .ok (.tableswitch 127 0 8 #[49, 60, 71, 79, 87, 95, 103, 111, 119], 49) := by decide +kernel
theorem dX8_count_72 : decode cX8_count 72 = .ok (.aload_n 0, 1) := by decide +kernel
theorem dX8_count_73 : decode cX8_count 73 = .ok (.getfield 20, 3) := by decide +kernel
theorem dX8_count_76 : decode cX8_count 76 = .ok (.getfield 130, 3) := by decide +kernel
theorem dX8_count_79 : decode cX8_count 79 = .ok (.getfield 249, 3) := by decide +kernel
theorem dX8_count_82 : decode cX8_count 82 = .ok (.ireturn, 1) := by decide +kernel
theorem dX8_count_83 : decode cX8_count 83 = .ok (.aload_n 0, 1) := by decide +kernel
theorem dX8_count_84 : decode cX8_count 84 = .ok (.getfield 20, 3) := by decide +kernel
theorem dX8_count_87 : decode cX8_count 87 = .ok (.getfield 130, 3) := by decide +kernel
theorem dX8_count_90 : decode cX8_count 90 = .ok (.getfield 252, 3) := by decide +kernel
theorem dX8_count_93 : decode cX8_count 93 = .ok (.ireturn, 1) := by decide +kernel
theorem dX8_count_94 : decode cX8_count 94 = .ok (.aload_n 0, 1) := by decide +kernel
theorem dX8_count_95 : decode cX8_count 95 = .ok (.getfield 20, 3) := by decide +kernel
theorem dX8_count_98 : decode cX8_count 98 = .ok (.getfield 246, 3) := by decide +kernel
theorem dX8_count_101 : decode cX8_count 101 = .ok (.ireturn, 1) := by decide +kernel
theorem dX8_count_102 : decode cX8_count 102 = .ok (.aload_n 0, 1) := by decide +kernel
theorem dX8_count_103 : decode cX8_count 103 = .ok (.getfield 20, 3) := by decide +kernel
theorem dX8_count_106 : decode cX8_count 106 = .ok (.invokevirtual 255, 3) := by decide +kernel
theorem dX8_count_109 : decode cX8_count 109 = .ok (.ireturn, 1) := by decide +kernel
theorem dX8_count_110 : decode cX8_count 110 = .ok (.aload_n 0, 1) := by decide +kernel
theorem dX8_count_111 : decode cX8_count 111 = .ok (.getfield 20, 3) := by decide +kernel
theorem dX8_count_114 : decode cX8_count 114 = .ok (.getfield 258, 3) := by decide +kernel
theorem dX8_count_117 : decode cX8_count 117 = .ok (.ireturn, 1) := by decide +kernel
theorem dX8_count_118 : decode cX8_count 118 = .ok (.aload_n 0, 1) := by decide +kernel
theorem dX8_count_119 : decode cX8_count 119 = .ok (.getfield 20, 3) := by decide +kernel
theorem dX8_count_122 : decode cX8_count 122 = .ok (.getfield 261, 3) := by decide +kernel
theorem dX8_count_125 : decode cX8_count 125 = .ok (.ireturn, 1) := by decide +kernel
theorem dX8_count_126 : decode cX8_count 126 = .ok (.aload_n 0, 1) := by decide +kernel
theorem dX8_count_127 : decode cX8_count 127 = .ok (.getfield 32, 3) := by decide +kernel
theorem dX8_count_130 : decode cX8_count 130 = .ok (.getfield 229, 3) := by decide +kernel
theorem dX8_count_133 : decode cX8_count 133 = .ok (.ireturn, 1) := by decide +kernel
theorem dX8_count_134 : decode cX8_count 134 = .ok (.aload_n 0, 1) := by decide +kernel
theorem dX8_count_135 : decode cX8_count 135 = .ok (.getfield 36, 3) := by decide +kernel
theorem dX8_count_138 : decode cX8_count 138 = .ok (.getfield 229, 3) := by decide +kernel
theorem dX8_count_141 : decode cX8_count 141 = .ok (.ireturn, 1) := by decide +kernel
theorem dX8_count_142 : decode cX8_count 142 = .ok (.aload_n 0, 1) := by decide +kernel
theorem dX8_count_143 : decode cX8_count 143 = .ok (.getfield 42, 3) := by decide +kernel
theorem dX8_count_146 : decode cX8_count 146 = .ok (.getfield 58, 3) := by decide +kernel
theorem dX8_count_149 : decode cX8_count 149 = .ok (.ireturn, 1) := by decide +kernel
theorem dX8_count_150 : decode cX8_count 150 = .ok (.bipush (-9), 2) := by decide +kernel
theorem dX8_count_152 : decode cX8_count 152 = .ok (.ireturn, 1) := by decide +kernel
theorem dX8_refuse_0 : decode cX8_refuse 0 = .ok (.iload_n 1, 1) := by decide +kernel
theorem dX8_refuse_1 : decode cX8_refuse 1 = .ok (.iconst 1, 1) := by decide +kernel
theorem dX8_refuse_2 : decode cX8_refuse 2 = .ok (.if_icmp .lt 19, 3) := by decide +kernel
theorem dX8_refuse_5 : decode cX8_refuse 5 = .ok (.iload_n 1, 1) := by decide +kernel
theorem dX8_refuse_6 : decode cX8_refuse 6 = .ok (.bipush 6, 2) := by decide +kernel
theorem dX8_refuse_8 : decode cX8_refuse 8 = .ok (.if_icmp .gt 13, 3) := by decide +kernel
theorem dX8_refuse_11 : decode cX8_refuse 11 = .ok (.aload_n 0, 1) := by decide +kernel
theorem dX8_refuse_12 : decode cX8_refuse 12 = .ok (.getfield 46, 3) := by decide +kernel
theorem dX8_refuse_15 : decode cX8_refuse 15 = .ok (.iload_n 1, 1) := by decide +kernel
theorem dX8_refuse_16 : decode cX8_refuse 16 = .ok (.dup2, 1) := by decide +kernel
theorem dX8_refuse_17 : decode cX8_refuse 17 = .ok (.iaload, 1) := by decide +kernel
theorem dX8_refuse_18 : decode cX8_refuse 18 = .ok (.iconst 1, 1) := by decide +kernel
theorem dX8_refuse_19 : decode cX8_refuse 19 = .ok (.iadd, 1) := by decide +kernel
theorem dX8_refuse_20 : decode cX8_refuse 20 = .ok (.iastore, 1) := by decide +kernel
theorem dX8_refuse_21 : decode cX8_refuse 21 = .ok (.iload_n 1, 1) := by decide +kernel
theorem dX8_refuse_22 : decode cX8_refuse 22 = .ok (.ineg, 1) := by decide +kernel
theorem dX8_refuse_23 : decode cX8_refuse 23 = .ok (.ireturn, 1) := by decide +kernel
theorem dX8_whyNotSeeds_0 : decode cX8_whyNotSeeds 0 = .ok (.iload_n 1, 1) := by decide +kernel
theorem dX8_whyNotSeeds_1 : decode cX8_whyNotSeeds 1 = .ok (.iconst 1, 1) := by decide +kernel
theorem dX8_whyNotSeeds_2 : decode cX8_whyNotSeeds 2 = .ok (.bipush 20, 2) := by decide +kernel
theorem dX8_whyNotSeeds_4 : decode cX8_whyNotSeeds 4 = .ok (.invokestatic 118, 3) := by decide +kernel
theorem dX8_whyNotSeeds_7 : decode cX8_whyNotSeeds 7 = .ok (.istore_n 2, 1) := by decide +kernel
theorem dX8_whyNotSeeds_8 : decode cX8_whyNotSeeds 8 = .ok (.iload_n 2, 1) := by decide +kernel
theorem dX8_whyNotSeeds_9 : decode cX8_whyNotSeeds 9 = .ok (.ifCond .ne 17, 3) := by decide +kernel
theorem dX8_whyNotSeeds_12 : decode cX8_whyNotSeeds 12 = .ok (.aload_n 0, 1) := by decide +kernel
theorem dX8_whyNotSeeds_13 : decode cX8_whyNotSeeds 13 = .ok (.getfield 20, 3) := by decide +kernel
theorem dX8_whyNotSeeds_16 : decode cX8_whyNotSeeds 16 = .ok (.invokevirtual 151, 3) := by decide +kernel
theorem dX8_whyNotSeeds_19 : decode cX8_whyNotSeeds 19 = .ok (.ifCond .ne 7, 3) := by decide +kernel
theorem dX8_whyNotSeeds_22 : decode cX8_whyNotSeeds 22 = .ok (.iconst 3, 1) := by decide +kernel
theorem dX8_whyNotSeeds_23 : decode cX8_whyNotSeeds 23 = .ok (.goto 4, 3) := by decide +kernel
theorem dX8_whyNotSeeds_26 : decode cX8_whyNotSeeds 26 = .ok (.iload_n 2, 1) := by decide +kernel
theorem dX8_whyNotSeeds_27 : decode cX8_whyNotSeeds 27 = .ok (.ireturn, 1) := by decide +kernel
theorem dX8_couldAllBeBy_0 : decode cX8_couldAllBeBy 0 = .ok (.iconst 1, 1) := by decide +kernel
theorem dX8_couldAllBeBy_1 : decode cX8_couldAllBeBy 1 = .ok (.istore_n 2, 1) := by decide +kernel
theorem dX8_couldAllBeBy_2 : decode cX8_couldAllBeBy 2 = .ok (.iconst 0, 1) := by decide +kernel
theorem dX8_couldAllBeBy_3 : decode cX8_couldAllBeBy 3 = .ok (.istore_n 3, 1) := by decide +kernel
theorem dX8_couldAllBeBy_4 : decode cX8_couldAllBeBy 4 = .ok (.iload_n 3, 1) := by decide +kernel
theorem dX8_couldAllBeBy_5 : decode cX8_couldAllBeBy 5 = .ok (.aload_n 0, 1) := by decide +kernel
theorem dX8_couldAllBeBy_6 : decode cX8_couldAllBeBy 6 = .ok (.getfield 32, 3) := by decide +kernel
theorem dX8_couldAllBeBy_9 : decode cX8_couldAllBeBy 9 = .ok (.getfield 229, 3) := by decide +kernel
theorem dX8_couldAllBeBy_12 : decode cX8_couldAllBeBy 12 = .ok (.if_icmp .ge 41, 3) := by decide +kernel
theorem dX8_couldAllBeBy_15 : decode cX8_couldAllBeBy 15 = .ok (.iload_n 2, 1) := by decide +kernel
theorem dX8_couldAllBeBy_16 : decode cX8_couldAllBeBy 16 = .ok (.ifCond .eq 29, 3) := by decide +kernel
theorem dX8_couldAllBeBy_19 : decode cX8_couldAllBeBy 19 = .ok (.aload_n 0, 1) := by decide +kernel
theorem dX8_couldAllBeBy_20 : decode cX8_couldAllBeBy 20 = .ok (.getfield 20, 3) := by decide +kernel
theorem dX8_couldAllBeBy_23 : decode cX8_couldAllBeBy 23 = .ok (.getfield 103, 3) := by decide +kernel
theorem dX8_couldAllBeBy_26 : decode cX8_couldAllBeBy 26 = .ok (.iload_n 1, 1) := by decide +kernel
theorem dX8_couldAllBeBy_27 : decode cX8_couldAllBeBy 27 = .ok (.aload_n 0, 1) := by decide +kernel
theorem dX8_couldAllBeBy_28 : decode cX8_couldAllBeBy 28 = .ok (.getfield 32, 3) := by decide +kernel
theorem dX8_couldAllBeBy_31 : decode cX8_couldAllBeBy 31 = .ok (.iload_n 3, 1) := by decide +kernel
theorem dX8_couldAllBeBy_32 : decode cX8_couldAllBeBy 32 = .ok (.invokevirtual 264, 3) := by decide +kernel
theorem dX8_couldAllBeBy_35 : decode cX8_couldAllBeBy 35 = .ok (.invokevirtual 267, 3) := by decide +kernel
theorem dX8_couldAllBeBy_38 : decode cX8_couldAllBeBy 38 = .ok (.ifCond .eq 7, 3) := by decide +kernel
theorem dX8_couldAllBeBy_41 : decode cX8_couldAllBeBy 41 = .ok (.iconst 1, 1) := by decide +kernel
theorem dX8_couldAllBeBy_42 : decode cX8_couldAllBeBy 42 = .ok (.goto 4, 3) := by decide +kernel
theorem dX8_couldAllBeBy_45 : decode cX8_couldAllBeBy 45 = .ok (.iconst 0, 1) := by decide +kernel
theorem dX8_couldAllBeBy_46 : decode cX8_couldAllBeBy 46 = .ok (.istore_n 2, 1) := by decide +kernel
theorem dX8_couldAllBeBy_47 : decode cX8_couldAllBeBy 47 = .ok (.iinc 3 1, 3) := by decide +kernel
theorem dX8_couldAllBeBy_50 : decode cX8_couldAllBeBy 50 = .ok (.goto (-46), 3) := by decide +kernel
theorem dX8_couldAllBeBy_53 : decode cX8_couldAllBeBy 53 = .ok (.iload_n 2, 1) := by decide +kernel
theorem dX8_couldAllBeBy_54 : decode cX8_couldAllBeBy 54 = .ok (.ireturn, 1) := by decide +kernel
theorem dX8_whyNotWithin_0 : decode cX8_whyNotWithin 0 = .ok (.iload_n 0, 1) := by decide +kernel
theorem dX8_whyNotWithin_1 : decode cX8_whyNotWithin 1 = .ok (.iload_n 1, 1) := by decide +kernel
theorem dX8_whyNotWithin_2 : decode cX8_whyNotWithin 2 = .ok (.if_icmp .ge 5, 3) := by decide +kernel
theorem dX8_whyNotWithin_5 : decode cX8_whyNotWithin 5 = .ok (.iconst 4, 1) := by decide +kernel
theorem dX8_whyNotWithin_6 : decode cX8_whyNotWithin 6 = .ok (.ireturn, 1) := by decide +kernel
theorem dX8_whyNotWithin_7 : decode cX8_whyNotWithin 7 = .ok (.iload_n 0, 1) := by decide +kernel
theorem dX8_whyNotWithin_8 : decode cX8_whyNotWithin 8 = .ok (.iload_n 2, 1) := by decide +kernel
theorem dX8_whyNotWithin_9 : decode cX8_whyNotWithin 9 = .ok (.if_icmp .le 8, 3) := by decide +kernel
theorem dX8_whyNotWithin_12 : decode cX8_whyNotWithin 12 = .ok (.bipush 6, 2) := by decide +kernel
theorem dX8_whyNotWithin_14 : decode cX8_whyNotWithin 14 = .ok (.goto 4, 3) := by decide +kernel
theorem dX8_whyNotWithin_17 : decode cX8_whyNotWithin 17 = .ok (.iconst 0, 1) := by decide +kernel
theorem dX8_whyNotWithin_18 : decode cX8_whyNotWithin 18 = .ok (.ireturn, 1) := by decide +kernel
theorem dX8_leastOf_0 : decode cX8_leastOf 0 = .ok (.iload_n 0, 1) := by decide +kernel
theorem dX8_leastOf_1 : decode cX8_leastOf 1 = .ok (.iconst 2, 1) := by decide +kernel
theorem dX8_leastOf_2 : decode cX8_leastOf 2 = .ok (.if_icmp .ge 7, 3) := by decide +kernel
theorem dX8_leastOf_5 : decode cX8_leastOf 5 = .ok (.iconst 1, 1) := by decide +kernel
theorem dX8_leastOf_6 : decode cX8_leastOf 6 = .ok (.goto 4, 3) := by decide +kernel
theorem dX8_leastOf_9 : decode cX8_leastOf 9 = .ok (.iconst 0, 1) := by decide +kernel
theorem dX8_leastOf_10 : decode cX8_leastOf 10 = .ok (.ireturn, 1) := by decide +kernel
theorem dX8_greatestOf_0 : decode cX8_greatestOf 0 = .ok (.iload_n 0, 1) := by decide +kernel
theorem dX8_greatestOf_1 : decode cX8_greatestOf 1 = .ok (.iconst 2, 1) := by decide +kernel
theorem dX8_greatestOf_2 : decode cX8_greatestOf 2 = .ok (.if_icmp .ge 6, 3) := by decide +kernel
theorem dX8_greatestOf_5 : decode cX8_greatestOf 5 = .ok (.bipush 99, 2) := by decide +kernel
theorem dX8_greatestOf_7 : decode cX8_greatestOf 7 = .ok (.ireturn, 1) := by decide +kernel
theorem dX8_greatestOf_8 : decode cX8_greatestOf 8 = .ok (.iload_n 0, 1) := by decide +kernel
theorem dX8_greatestOf_9 : decode cX8_greatestOf 9 = .ok (.iconst 5, 1) := by decide +kernel
theorem dX8_greatestOf_10 : decode cX8_greatestOf 10 = .ok (.if_icmp .ne 8, 3) := by decide +kernel
theorem dX8_greatestOf_13 : decode cX8_greatestOf 13 = .ok (.bipush 6, 2) := by decide +kernel
theorem dX8_greatestOf_15 : decode cX8_greatestOf 15 = .ok (.goto 5, 3) := by decide +kernel
theorem dX8_greatestOf_18 : decode cX8_greatestOf 18 = .ok (.bipush 9, 2) := by decide +kernel
theorem dX8_greatestOf_20 : decode cX8_greatestOf 20 = .ok (.ireturn, 1) := by decide +kernel
theorem dX9_init_0 : decode cX9_init 0 = .ok (.aload_n 0, 1) := by decide +kernel
theorem dX9_init_1 : decode cX9_init 1 = .ok (.invokespecial 1, 3) := by decide +kernel
theorem dX9_init_4 : decode cX9_init 4 = .ok (.aload_n 0, 1) := by decide +kernel
theorem dX9_init_5 : decode cX9_init 5 = .ok (.bipush 7, 2) := by decide +kernel
theorem dX9_init_7 : decode cX9_init 7 = .ok (.newarray .int, 2) := by decide +kernel
theorem dX9_init_9 : decode cX9_init 9 = .ok (.putfield 7, 3) := by decide +kernel
theorem dX9_init_12 : decode cX9_init 12 = .ok (.aload_n 0, 1) := by decide +kernel
theorem dX9_init_13 : decode cX9_init 13 = .ok (.bipush 60, 2) := by decide +kernel
theorem dX9_init_15 : decode cX9_init 15 = .ok (.newarray .int, 2) := by decide +kernel
theorem dX9_init_17 : decode cX9_init 17 = .ok (.putfield 13, 3) := by decide +kernel
theorem dX9_init_20 : decode cX9_init 20 = .ok (.aload_n 0, 1) := by decide +kernel
theorem dX9_init_21 : decode cX9_init 21 = .ok (.bipush 12, 2) := by decide +kernel
theorem dX9_init_23 : decode cX9_init 23 = .ok (.newarray .int, 2) := by decide +kernel
theorem dX9_init_25 : decode cX9_init 25 = .ok (.putfield 16, 3) := by decide +kernel
theorem dX9_init_28 : decode cX9_init 28 = .ok (.aload_n 0, 1) := by decide +kernel
theorem dX9_init_29 : decode cX9_init 29 = .ok (.bipush 12, 2) := by decide +kernel
theorem dX9_init_31 : decode cX9_init 31 = .ok (.newarray .int, 2) := by decide +kernel
theorem dX9_init_33 : decode cX9_init 33 = .ok (.putfield 19, 3) := by decide +kernel
theorem dX9_init_36 : decode cX9_init 36 = .ok (.aload_n 0, 1) := by decide +kernel
theorem dX9_init_37 : decode cX9_init 37 = .ok (.bipush 12, 2) := by decide +kernel
theorem dX9_init_39 : decode cX9_init 39 = .ok (.newarray .int, 2) := by decide +kernel
theorem dX9_init_41 : decode cX9_init 41 = .ok (.putfield 22, 3) := by decide +kernel
theorem dX9_init_44 : decode cX9_init 44 = .ok (.aload_n 0, 1) := by decide +kernel
theorem dX9_init_45 : decode cX9_init 45 = .ok (.bipush 12, 2) := by decide +kernel
theorem dX9_init_47 : decode cX9_init 47 = .ok (.newarray .int, 2) := by decide +kernel
theorem dX9_init_49 : decode cX9_init 49 = .ok (.putfield 25, 3) := by decide +kernel
theorem dX9_init_52 : decode cX9_init 52 = .ok (.aload_n 0, 1) := by decide +kernel
theorem dX9_init_53 : decode cX9_init 53 = .ok (.bipush 12, 2) := by decide +kernel
theorem dX9_init_55 : decode cX9_init 55 = .ok (.newarray .int, 2) := by decide +kernel
theorem dX9_init_57 : decode cX9_init 57 = .ok (.putfield 28, 3) := by decide +kernel
theorem dX9_init_60 : decode cX9_init 60 = .ok (.aload_n 0, 1) := by decide +kernel
theorem dX9_init_61 : decode cX9_init 61 = .ok (.bipush 12, 2) := by decide +kernel
theorem dX9_init_63 : decode cX9_init 63 = .ok (.newarray .int, 2) := by decide +kernel
theorem dX9_init_65 : decode cX9_init 65 = .ok (.putfield 31, 3) := by decide +kernel
theorem dX9_init_68 : decode cX9_init 68 = .ok (.aload_n 0, 1) := by decide +kernel
theorem dX9_init_69 : decode cX9_init 69 = .ok (.bipush 12, 2) := by decide +kernel
theorem dX9_init_71 : decode cX9_init 71 = .ok (.newarray .int, 2) := by decide +kernel
theorem dX9_init_73 : decode cX9_init 73 = .ok (.putfield 34, 3) := by decide +kernel
theorem dX9_init_76 : decode cX9_init 76 = .ok (.aload_n 0, 1) := by decide +kernel
theorem dX9_init_77 : decode cX9_init 77 = .ok (.bipush 12, 2) := by decide +kernel
theorem dX9_init_79 : decode cX9_init 79 = .ok (.newarray .int, 2) := by decide +kernel
theorem dX9_init_81 : decode cX9_init 81 = .ok (.putfield 37, 3) := by decide +kernel
theorem dX9_init_84 : decode cX9_init 84 = .ok (.aload_n 0, 1) := by decide +kernel
theorem dX9_init_85 : decode cX9_init 85 = .ok (.bipush 12, 2) := by decide +kernel
theorem dX9_init_87 : decode cX9_init 87 = .ok (.newarray .int, 2) := by decide +kernel
theorem dX9_init_89 : decode cX9_init 89 = .ok (.putfield 40, 3) := by decide +kernel
theorem dX9_init_92 : decode cX9_init 92 = .ok (.aload_n 0, 1) := by decide +kernel
theorem dX9_init_93 : decode cX9_init 93 = .ok (.bipush 24, 2) := by decide +kernel
theorem dX9_init_95 : decode cX9_init 95 = .ok (.putfield 43, 3) := by decide +kernel
theorem dX9_init_98 : decode cX9_init 98 = .ok (.aload_n 0, 1) := by decide +kernel
theorem dX9_init_99 : decode cX9_init 99 = .ok (.bipush 10, 2) := by decide +kernel
theorem dX9_init_101 : decode cX9_init 101 = .ok (.putfield 47, 3) := by decide +kernel
theorem dX9_init_104 : decode cX9_init 104 = .ok (.aload_n 0, 1) := by decide +kernel
theorem dX9_init_105 : decode cX9_init 105 = .ok (.iconst 1, 1) := by decide +kernel
theorem dX9_init_106 : decode cX9_init 106 = .ok (.putfield 50, 3) := by decide +kernel
theorem dX9_init_109 : decode cX9_init 109 = .ok (.aload_n 0, 1) := by decide +kernel
theorem dX9_init_110 : decode cX9_init 110 = .ok (.bipush 64, 2) := by decide +kernel
theorem dX9_init_112 : decode cX9_init 112 = .ok (.newarray .int, 2) := by decide +kernel
theorem dX9_init_114 : decode cX9_init 114 = .ok (.putfield 53, 3) := by decide +kernel
theorem dX9_init_117 : decode cX9_init 117 = .ok (.aload_n 0, 1) := by decide +kernel
theorem dX9_init_118 : decode cX9_init 118 = .ok (.bipush 32, 2) := by decide +kernel
theorem dX9_init_120 : decode cX9_init 120 = .ok (.newarray .int, 2) := by decide +kernel
theorem dX9_init_122 : decode cX9_init 122 = .ok (.putfield 56, 3) := by decide +kernel
theorem dX9_init_125 : decode cX9_init 125 = .ok (.aload_n 0, 1) := by decide +kernel
theorem dX9_init_126 : decode cX9_init 126 = .ok (.bipush 32, 2) := by decide +kernel
theorem dX9_init_128 : decode cX9_init 128 = .ok (.newarray .int, 2) := by decide +kernel
theorem dX9_init_130 : decode cX9_init 130 = .ok (.putfield 59, 3) := by decide +kernel
theorem dX9_init_133 : decode cX9_init 133 = .ok (.aload_n 0, 1) := by decide +kernel
theorem dX9_init_134 : decode cX9_init 134 = .ok (.bipush 32, 2) := by decide +kernel
theorem dX9_init_136 : decode cX9_init 136 = .ok (.newarray .int, 2) := by decide +kernel
theorem dX9_init_138 : decode cX9_init 138 = .ok (.putfield 62, 3) := by decide +kernel
theorem dX9_init_141 : decode cX9_init 141 = .ok (.aload_n 0, 1) := by decide +kernel
theorem dX9_init_142 : decode cX9_init 142 = .ok (.bipush 32, 2) := by decide +kernel
theorem dX9_init_144 : decode cX9_init 144 = .ok (.newarray .int, 2) := by decide +kernel
theorem dX9_init_146 : decode cX9_init 146 = .ok (.putfield 65, 3) := by decide +kernel
theorem dX9_init_149 : decode cX9_init 149 = .ok (.aload_n 0, 1) := by decide +kernel
theorem dX9_init_150 : decode cX9_init 150 = .ok (.bipush 32, 2) := by decide +kernel
theorem dX9_init_152 : decode cX9_init 152 = .ok (.newarray .int, 2) := by decide +kernel
theorem dX9_init_154 : decode cX9_init 154 = .ok (.putfield 68, 3) := by decide +kernel
theorem dX9_init_157 : decode cX9_init 157 = .ok (.aload_n 0, 1) := by decide +kernel
theorem dX9_init_158 : decode cX9_init 158 = .ok (.sipush 400, 3) := by decide +kernel
theorem dX9_init_161 : decode cX9_init 161 = .ok (.newarray .int, 2) := by decide +kernel
theorem dX9_init_163 : decode cX9_init 163 = .ok (.putfield 71, 3) := by decide +kernel
theorem dX9_init_166 : decode cX9_init 166 = .ok (.aload_n 0, 1) := by decide +kernel
theorem dX9_init_167 : decode cX9_init 167 = .ok (.bipush 12, 2) := by decide +kernel
theorem dX9_init_169 : decode cX9_init 169 = .ok (.newarray .int, 2) := by decide +kernel
theorem dX9_init_171 : decode cX9_init 171 = .ok (.putfield 74, 3) := by decide +kernel
theorem dX9_init_174 : decode cX9_init 174 = .ok (.aload_n 0, 1) := by decide +kernel
theorem dX9_init_175 : decode cX9_init 175 = .ok (.bipush 12, 2) := by decide +kernel
theorem dX9_init_177 : decode cX9_init 177 = .ok (.newarray .int, 2) := by decide +kernel
theorem dX9_init_179 : decode cX9_init 179 = .ok (.putfield 77, 3) := by decide +kernel
theorem dX9_init_182 : decode cX9_init 182 = .ok (.aload_n 0, 1) := by decide +kernel
theorem dX9_init_183 : decode cX9_init 183 = .ok (.bipush 16, 2) := by decide +kernel
theorem dX9_init_185 : decode cX9_init 185 = .ok (.newarray .int, 2) := by decide +kernel
theorem dX9_init_187 : decode cX9_init 187 = .ok (.putfield 80, 3) := by decide +kernel
theorem dX9_init_190 : decode cX9_init 190 = .ok (.aload_n 0, 1) := by decide +kernel
theorem dX9_init_191 : decode cX9_init 191 = .ok (.bipush 60, 2) := by decide +kernel
theorem dX9_init_193 : decode cX9_init 193 = .ok (.newarray .int, 2) := by decide +kernel
theorem dX9_init_195 : decode cX9_init 195 = .ok (.putfield 83, 3) := by decide +kernel
theorem dX9_init_198 : decode cX9_init 198 = .ok (.return_, 1) := by decide +kernel
theorem dX9_no_0 : decode cX9_no 0 = .ok (.aload_n 0, 1) := by decide +kernel
theorem dX9_no_1 : decode cX9_no 1 = .ok (.getfield 7, 3) := by decide +kernel
theorem dX9_no_4 : decode cX9_no 4 = .ok (.iload_n 1, 1) := by decide +kernel
theorem dX9_no_5 : decode cX9_no 5 = .ok (.ineg, 1) := by decide +kernel
theorem dX9_no_6 : decode cX9_no 6 = .ok (.dup2, 1) := by decide +kernel
theorem dX9_no_7 : decode cX9_no 7 = .ok (.iaload, 1) := by decide +kernel
theorem dX9_no_8 : decode cX9_no 8 = .ok (.iconst 1, 1) := by decide +kernel
theorem dX9_no_9 : decode cX9_no 9 = .ok (.iadd, 1) := by decide +kernel
theorem dX9_no_10 : decode cX9_no 10 = .ok (.iastore, 1) := by decide +kernel
theorem dX9_no_11 : decode cX9_no 11 = .ok (.iload_n 1, 1) := by decide +kernel
theorem dX9_no_12 : decode cX9_no 12 = .ok (.ireturn, 1) := by decide +kernel
theorem dX9_isIn_0 : decode cX9_isIn 0 = .ok (.iload_n 0, 1) := by decide +kernel
theorem dX9_isIn_1 : decode cX9_isIn 1 = .ok (.iload_n 1, 1) := by decide +kernel
theorem dX9_isIn_2 : decode cX9_isIn 2 = .ok (.if_icmp .lt 12, 3) := by decide +kernel
theorem dX9_isIn_5 : decode cX9_isIn 5 = .ok (.iload_n 0, 1) := by decide +kernel
theorem dX9_isIn_6 : decode cX9_isIn 6 = .ok (.iload_n 2, 1) := by decide +kernel
theorem dX9_isIn_7 : decode cX9_isIn 7 = .ok (.if_icmp .gt 7, 3) := by decide +kernel
theorem dX9_isIn_10 : decode cX9_isIn 10 = .ok (.iconst 1, 1) := by decide +kernel
theorem dX9_isIn_11 : decode cX9_isIn 11 = .ok (.goto 4, 3) := by decide +kernel
theorem dX9_isIn_14 : decode cX9_isIn 14 = .ok (.iconst 0, 1) := by decide +kernel
theorem dX9_isIn_15 : decode cX9_isIn 15 = .ok (.ireturn, 1) := by decide +kernel
theorem dX9_bound_0 : decode cX9_bound 0 = .ok (.iload_n 0, 1) := by decide +kernel
theorem dX9_bound_1 : decode cX9_bound 1 = .ok (.iload_n 1, 1) := by decide +kernel
theorem dX9_bound_2 : decode cX9_bound 2 = .ok (.if_icmp .ge 8, 3) := by decide +kernel
theorem dX9_bound_5 : decode cX9_bound 5 = .ok (.bipush (-4), 2) := by decide +kernel
theorem dX9_bound_7 : decode cX9_bound 7 = .ok (.goto 14, 3) := by decide +kernel
theorem dX9_bound_10 : decode cX9_bound 10 = .ok (.iload_n 0, 1) := by decide +kernel
theorem dX9_bound_11 : decode cX9_bound 11 = .ok (.iload_n 2, 1) := by decide +kernel
theorem dX9_bound_12 : decode cX9_bound 12 = .ok (.if_icmp .le 8, 3) := by decide +kernel
theorem dX9_bound_15 : decode cX9_bound 15 = .ok (.bipush (-6), 2) := by decide +kernel
theorem dX9_bound_17 : decode cX9_bound 17 = .ok (.goto 4, 3) := by decide +kernel
theorem dX9_bound_20 : decode cX9_bound 20 = .ok (.iconst 0, 1) := by decide +kernel
theorem dX9_bound_21 : decode cX9_bound 21 = .ok (.ireturn, 1) := by decide +kernel
theorem dX9_isPlace_0 : decode cX9_isPlace 0 = .ok (.iload_n 1, 1) := by decide +kernel
theorem dX9_isPlace_1 : decode cX9_isPlace 1 = .ok (.ifCond .lt 15, 3) := by decide +kernel
theorem dX9_isPlace_4 : decode cX9_isPlace 4 = .ok (.iload_n 1, 1) := by decide +kernel
theorem dX9_isPlace_5 : decode cX9_isPlace 5 = .ok (.aload_n 0, 1) := by decide +kernel
theorem dX9_isPlace_6 : decode cX9_isPlace 6 = .ok (.getfield 43, 3) := by decide +kernel
theorem dX9_isPlace_9 : decode cX9_isPlace 9 = .ok (.if_icmp .ge 7, 3) := by decide +kernel
theorem dX9_isPlace_12 : decode cX9_isPlace 12 = .ok (.iconst 1, 1) := by decide +kernel
theorem dX9_isPlace_13 : decode cX9_isPlace 13 = .ok (.goto 4, 3) := by decide +kernel
theorem dX9_isPlace_16 : decode cX9_isPlace 16 = .ok (.iconst 0, 1) := by decide +kernel
theorem dX9_isPlace_17 : decode cX9_isPlace 17 = .ok (.ireturn, 1) := by decide +kernel
theorem dX9_isWalker_0 : decode cX9_isWalker 0 = .ok (.iload_n 1, 1) := by decide +kernel
theorem dX9_isWalker_1 : decode cX9_isWalker 1 = .ok (.ifCond .lt 15, 3) := by decide +kernel
theorem dX9_isWalker_4 : decode cX9_isWalker 4 = .ok (.iload_n 1, 1) := by decide +kernel
theorem dX9_isWalker_5 : decode cX9_isWalker 5 = .ok (.aload_n 0, 1) := by decide +kernel
theorem dX9_isWalker_6 : decode cX9_isWalker 6 = .ok (.getfield 86, 3) := by decide +kernel
theorem dX9_isWalker_9 : decode cX9_isWalker 9 = .ok (.if_icmp .ge 7, 3) := by decide +kernel
theorem dX9_isWalker_12 : decode cX9_isWalker 12 = .ok (.iconst 1, 1) := by decide +kernel
theorem dX9_isWalker_13 : decode cX9_isWalker 13 = .ok (.goto 4, 3) := by decide +kernel
theorem dX9_isWalker_16 : decode cX9_isWalker 16 = .ok (.iconst 0, 1) := by decide +kernel
theorem dX9_isWalker_17 : decode cX9_isWalker 17 = .ok (.ireturn, 1) := by decide +kernel
theorem dX9_chairs_0 : decode cX9_chairs 0 = .ok (.iconst 0, 1) := by decide +kernel
theorem dX9_chairs_1 : decode cX9_chairs 1 = .ok (.istore_n 1, 1) := by decide +kernel
theorem dX9_chairs_2 : decode cX9_chairs 2 = .ok (.iconst 0, 1) := by decide +kernel
theorem dX9_chairs_3 : decode cX9_chairs 3 = .ok (.istore_n 2, 1) := by decide +kernel
theorem dX9_chairs_4 : decode cX9_chairs 4 = .ok (.iload_n 2, 1) := by decide +kernel
theorem dX9_chairs_5 : decode cX9_chairs 5 = .ok (.aload_n 0, 1) := by decide +kernel
theorem dX9_chairs_6 : decode cX9_chairs 6 = .ok (.getfield 43, 3) := by decide +kernel
theorem dX9_chairs_9 : decode cX9_chairs 9 = .ok (.if_icmp .ge 18, 3) := by decide +kernel
theorem dX9_chairs_12 : decode cX9_chairs 12 = .ok (.iload_n 1, 1) := by decide +kernel
theorem dX9_chairs_13 : decode cX9_chairs 13 = .ok (.aload_n 0, 1) := by decide +kernel
theorem dX9_chairs_14 : decode cX9_chairs 14 = .ok (.getfield 13, 3) := by decide +kernel
theorem dX9_chairs_17 : decode cX9_chairs 17 = .ok (.iload_n 2, 1) := by decide +kernel
theorem dX9_chairs_18 : decode cX9_chairs 18 = .ok (.iaload, 1) := by decide +kernel
theorem dX9_chairs_19 : decode cX9_chairs 19 = .ok (.iadd, 1) := by decide +kernel
theorem dX9_chairs_20 : decode cX9_chairs 20 = .ok (.istore_n 1, 1) := by decide +kernel
theorem dX9_chairs_21 : decode cX9_chairs 21 = .ok (.iinc 2 1, 3) := by decide +kernel
theorem dX9_chairs_24 : decode cX9_chairs 24 = .ok (.goto (-20), 3) := by decide +kernel
theorem dX9_chairs_27 : decode cX9_chairs 27 = .ok (.iload_n 1, 1) := by decide +kernel
theorem dX9_chairs_28 : decode cX9_chairs 28 = .ok (.ireturn, 1) := by decide +kernel
theorem dX9_far_0 : decode cX9_far 0 = .ok (.iload_n 1, 1) := by decide +kernel
theorem dX9_far_1 : decode cX9_far 1 = .ok (.iload_n 2, 1) := by decide +kernel
theorem dX9_far_2 : decode cX9_far 2 = .ok (.if_icmp .le 9, 3) := by decide +kernel
theorem dX9_far_5 : decode cX9_far 5 = .ok (.iload_n 1, 1) := by decide +kernel
theorem dX9_far_6 : decode cX9_far 6 = .ok (.iload_n 2, 1) := by decide +kernel
theorem dX9_far_7 : decode cX9_far 7 = .ok (.isub, 1) := by decide +kernel
theorem dX9_far_8 : decode cX9_far 8 = .ok (.goto 6, 3) := by decide +kernel
theorem dX9_far_11 : decode cX9_far 11 = .ok (.iload_n 2, 1) := by decide +kernel
theorem dX9_far_12 : decode cX9_far 12 = .ok (.iload_n 1, 1) := by decide +kernel
theorem dX9_far_13 : decode cX9_far 13 = .ok (.isub, 1) := by decide +kernel
theorem dX9_far_14 : decode cX9_far 14 = .ok (.istore_n 3, 1) := by decide +kernel
theorem dX9_far_15 : decode cX9_far 15 = .ok (.iload_n 3, 1) := by decide +kernel
theorem dX9_far_16 : decode cX9_far 16 = .ok (.aload_n 0, 1) := by decide +kernel
theorem dX9_far_17 : decode cX9_far 17 = .ok (.getfield 43, 3) := by decide +kernel
theorem dX9_far_20 : decode cX9_far 20 = .ok (.iload_n 3, 1) := by decide +kernel
theorem dX9_far_21 : decode cX9_far 21 = .ok (.isub, 1) := by decide +kernel
theorem dX9_far_22 : decode cX9_far 22 = .ok (.if_icmp .le 12, 3) := by decide +kernel
theorem dX9_far_25 : decode cX9_far 25 = .ok (.aload_n 0, 1) := by decide +kernel
theorem dX9_far_26 : decode cX9_far 26 = .ok (.getfield 43, 3) := by decide +kernel
theorem dX9_far_29 : decode cX9_far 29 = .ok (.iload_n 3, 1) := by decide +kernel
theorem dX9_far_30 : decode cX9_far 30 = .ok (.isub, 1) := by decide +kernel
theorem dX9_far_31 : decode cX9_far 31 = .ok (.goto 4, 3) := by decide +kernel
theorem dX9_far_34 : decode cX9_far 34 = .ok (.iload_n 3, 1) := by decide +kernel
theorem dX9_far_35 : decode cX9_far 35 = .ok (.ireturn, 1) := by decide +kernel
theorem dX9_isTaken_0 : decode cX9_isTaken 0 = .ok (.iconst 0, 1) := by decide +kernel
theorem dX9_isTaken_1 : decode cX9_isTaken 1 = .ok (.istore_n 2, 1) := by decide +kernel
theorem dX9_isTaken_2 : decode cX9_isTaken 2 = .ok (.iload_n 2, 1) := by decide +kernel
theorem dX9_isTaken_3 : decode cX9_isTaken 3 = .ok (.aload_n 0, 1) := by decide +kernel
theorem dX9_isTaken_4 : decode cX9_isTaken 4 = .ok (.getfield 86, 3) := by decide +kernel
theorem dX9_isTaken_7 : decode cX9_isTaken 7 = .ok (.if_icmp .ge 31, 3) := by decide +kernel
theorem dX9_isTaken_10 : decode cX9_isTaken 10 = .ok (.aload_n 0, 1) := by decide +kernel
theorem dX9_isTaken_11 : decode cX9_isTaken 11 = .ok (.getfield 22, 3) := by decide +kernel
theorem dX9_isTaken_14 : decode cX9_isTaken 14 = .ok (.iload_n 2, 1) := by decide +kernel
theorem dX9_isTaken_15 : decode cX9_isTaken 15 = .ok (.iaload, 1) := by decide +kernel
theorem dX9_isTaken_16 : decode cX9_isTaken 16 = .ok (.iconst 1, 1) := by decide +kernel
theorem dX9_isTaken_17 : decode cX9_isTaken 17 = .ok (.if_icmp .ne 15, 3) := by decide +kernel
theorem dX9_isTaken_20 : decode cX9_isTaken 20 = .ok (.aload_n 0, 1) := by decide +kernel
theorem dX9_isTaken_21 : decode cX9_isTaken 21 = .ok (.getfield 16, 3) := by decide +kernel
theorem dX9_isTaken_24 : decode cX9_isTaken 24 = .ok (.iload_n 2, 1) := by decide +kernel
theorem dX9_isTaken_25 : decode cX9_isTaken 25 = .ok (.iaload, 1) := by decide +kernel
theorem dX9_isTaken_26 : decode cX9_isTaken 26 = .ok (.iload_n 1, 1) := by decide +kernel
theorem dX9_isTaken_27 : decode cX9_isTaken 27 = .ok (.if_icmp .ne 5, 3) := by decide +kernel
theorem dX9_isTaken_30 : decode cX9_isTaken 30 = .ok (.iconst 1, 1) := by decide +kernel
theorem dX9_isTaken_31 : decode cX9_isTaken 31 = .ok (.ireturn, 1) := by decide +kernel
theorem dX9_isTaken_32 : decode cX9_isTaken 32 = .ok (.iinc 2 1, 3) := by decide +kernel
theorem dX9_isTaken_35 : decode cX9_isTaken 35 = .ok (.goto (-33), 3) := by decide +kernel
theorem dX9_isTaken_38 : decode cX9_isTaken 38 = .ok (.iconst 0, 1) := by decide +kernel
theorem dX9_isTaken_39 : decode cX9_isTaken 39 = .ok (.ireturn, 1) := by decide +kernel
theorem dX9_ins_0 : decode cX9_ins 0 = .ok (.iconst 0, 1) := by decide +kernel
theorem dX9_ins_1 : decode cX9_ins 1 = .ok (.istore_n 1, 1) := by decide +kernel
theorem dX9_ins_2 : decode cX9_ins 2 = .ok (.iconst 0, 1) := by decide +kernel
theorem dX9_ins_3 : decode cX9_ins 3 = .ok (.istore_n 2, 1) := by decide +kernel
theorem dX9_ins_4 : decode cX9_ins 4 = .ok (.iload_n 2, 1) := by decide +kernel
theorem dX9_ins_5 : decode cX9_ins 5 = .ok (.aload_n 0, 1) := by decide +kernel
theorem dX9_ins_6 : decode cX9_ins 6 = .ok (.getfield 86, 3) := by decide +kernel
theorem dX9_ins_9 : decode cX9_ins 9 = .ok (.if_icmp .ge 18, 3) := by decide +kernel
theorem dX9_ins_12 : decode cX9_ins 12 = .ok (.iload_n 1, 1) := by decide +kernel
theorem dX9_ins_13 : decode cX9_ins 13 = .ok (.aload_n 0, 1) := by decide +kernel
theorem dX9_ins_14 : decode cX9_ins 14 = .ok (.getfield 22, 3) := by decide +kernel
theorem dX9_ins_17 : decode cX9_ins 17 = .ok (.iload_n 2, 1) := by decide +kernel
theorem dX9_ins_18 : decode cX9_ins 18 = .ok (.iaload, 1) := by decide +kernel
theorem dX9_ins_19 : decode cX9_ins 19 = .ok (.iadd, 1) := by decide +kernel
theorem dX9_ins_20 : decode cX9_ins 20 = .ok (.istore_n 1, 1) := by decide +kernel
theorem dX9_ins_21 : decode cX9_ins 21 = .ok (.iinc 2 1, 3) := by decide +kernel
theorem dX9_ins_24 : decode cX9_ins 24 = .ok (.goto (-20), 3) := by decide +kernel
theorem dX9_ins_27 : decode cX9_ins 27 = .ok (.iload_n 1, 1) := by decide +kernel
theorem dX9_ins_28 : decode cX9_ins 28 = .ok (.ireturn, 1) := by decide +kernel
theorem dX9_comesChair_0 : decode cX9_comesChair 0 = .ok (.aload_n 0, 1) := by decide +kernel
theorem dX9_comesChair_1 : decode cX9_comesChair 1 = .ok (.getfield 13, 3) := by decide +kernel
theorem dX9_comesChair_4 : decode cX9_comesChair 4 = .ok (.iload_n 1, 1) := by decide +kernel
theorem dX9_comesChair_5 : decode cX9_comesChair 5 = .ok (.iconst 1, 1) := by decide +kernel
theorem dX9_comesChair_6 : decode cX9_comesChair 6 = .ok (.iastore, 1) := by decide +kernel
theorem dX9_comesChair_7 : decode cX9_comesChair 7 = .ok (.aload_n 0, 1) := by decide +kernel
theorem dX9_comesChair_8 : decode cX9_comesChair 8 = .ok (.iconst 0, 1) := by decide +kernel
theorem dX9_comesChair_9 : decode cX9_comesChair 9 = .ok (.putfield 89, 3) := by decide +kernel
theorem dX9_comesChair_12 : decode cX9_comesChair 12 = .ok (.return_, 1) := by decide +kernel
theorem dX9_comesWalker_0 : decode cX9_comesWalker 0 = .ok (.aload_n 0, 1) := by decide +kernel
theorem dX9_comesWalker_1 : decode cX9_comesWalker 1 = .ok (.getfield 16, 3) := by decide +kernel
theorem dX9_comesWalker_4 : decode cX9_comesWalker 4 = .ok (.aload_n 0, 1) := by decide +kernel
theorem dX9_comesWalker_5 : decode cX9_comesWalker 5 = .ok (.getfield 86, 3) := by decide +kernel
theorem dX9_comesWalker_8 : decode cX9_comesWalker 8 = .ok (.iload_n 1, 1) := by decide +kernel
theorem dX9_comesWalker_9 : decode cX9_comesWalker 9 = .ok (.iastore, 1) := by decide +kernel
theorem dX9_comesWalker_10 : decode cX9_comesWalker 10 = .ok (.aload_n 0, 1) := by decide +kernel
theorem dX9_comesWalker_11 : decode cX9_comesWalker 11 = .ok (.getfield 19, 3) := by decide +kernel
theorem dX9_comesWalker_14 : decode cX9_comesWalker 14 = .ok (.aload_n 0, 1) := by decide +kernel
theorem dX9_comesWalker_15 : decode cX9_comesWalker 15 = .ok (.getfield 86, 3) := by decide +kernel
theorem dX9_comesWalker_18 : decode cX9_comesWalker 18 = .ok (.iconst 0, 1) := by decide +kernel
theorem dX9_comesWalker_19 : decode cX9_comesWalker 19 = .ok (.iastore, 1) := by decide +kernel
theorem dX9_comesWalker_20 : decode cX9_comesWalker 20 = .ok (.aload_n 0, 1) := by decide +kernel
theorem dX9_comesWalker_21 : decode cX9_comesWalker 21 = .ok (.getfield 22, 3) := by decide +kernel
theorem dX9_comesWalker_24 : decode cX9_comesWalker 24 = .ok (.aload_n 0, 1) := by decide +kernel
theorem dX9_comesWalker_25 : decode cX9_comesWalker 25 = .ok (.getfield 86, 3) := by decide +kernel
theorem dX9_comesWalker_28 : decode cX9_comesWalker 28 = .ok (.iconst 1, 1) := by decide +kernel
theorem dX9_comesWalker_29 : decode cX9_comesWalker 29 = .ok (.iastore, 1) := by decide +kernel
theorem dX9_comesWalker_30 : decode cX9_comesWalker 30 = .ok (.aload_n 0, 1) := by decide +kernel
theorem dX9_comesWalker_31 : decode cX9_comesWalker 31 = .ok (.getfield 25, 3) := by decide +kernel
theorem dX9_comesWalker_34 : decode cX9_comesWalker 34 = .ok (.aload_n 0, 1) := by decide +kernel
theorem dX9_comesWalker_35 : decode cX9_comesWalker 35 = .ok (.getfield 86, 3) := by decide +kernel
theorem dX9_comesWalker_38 : decode cX9_comesWalker 38 = .ok (.iload_n 2, 1) := by decide +kernel
theorem dX9_comesWalker_39 : decode cX9_comesWalker 39 = .ok (.iastore, 1) := by decide +kernel
theorem dX9_comesWalker_40 : decode cX9_comesWalker 40 = .ok (.aload_n 0, 1) := by decide +kernel
theorem dX9_comesWalker_41 : decode cX9_comesWalker 41 = .ok (.getfield 28, 3) := by decide +kernel
theorem dX9_comesWalker_44 : decode cX9_comesWalker 44 = .ok (.aload_n 0, 1) := by decide +kernel
theorem dX9_comesWalker_45 : decode cX9_comesWalker 45 = .ok (.getfield 86, 3) := by decide +kernel
theorem dX9_comesWalker_48 : decode cX9_comesWalker 48 = .ok (.iload_n 3, 1) := by decide +kernel
theorem dX9_comesWalker_49 : decode cX9_comesWalker 49 = .ok (.iastore, 1) := by decide +kernel
theorem dX9_comesWalker_50 : decode cX9_comesWalker 50 = .ok (.aload_n 0, 1) := by decide +kernel
theorem dX9_comesWalker_51 : decode cX9_comesWalker 51 = .ok (.getfield 31, 3) := by decide +kernel
theorem dX9_comesWalker_54 : decode cX9_comesWalker 54 = .ok (.aload_n 0, 1) := by decide +kernel
theorem dX9_comesWalker_55 : decode cX9_comesWalker 55 = .ok (.getfield 86, 3) := by decide +kernel
theorem dX9_comesWalker_58 : decode cX9_comesWalker 58 = .ok (.iload_n 3, 1) := by decide +kernel
theorem dX9_comesWalker_59 : decode cX9_comesWalker 59 = .ok (.iconst 2, 1) := by decide +kernel
theorem dX9_comesWalker_60 : decode cX9_comesWalker 60 = .ok (.idiv, 1) := by decide +kernel
theorem dX9_comesWalker_61 : decode cX9_comesWalker 61 = .ok (.iconst 1, 1) := by decide +kernel
theorem dX9_comesWalker_62 : decode cX9_comesWalker 62 = .ok (.if_icmp .ge 7, 3) := by decide +kernel
theorem dX9_comesWalker_65 : decode cX9_comesWalker 65 = .ok (.iconst 1, 1) := by decide +kernel
theorem dX9_comesWalker_66 : decode cX9_comesWalker 66 = .ok (.goto 6, 3) := by decide +kernel
theorem dX9_comesWalker_69 : decode cX9_comesWalker 69 = .ok (.iload_n 3, 1) := by decide +kernel
theorem dX9_comesWalker_70 : decode cX9_comesWalker 70 = .ok (.iconst 2, 1) := by decide +kernel
theorem dX9_comesWalker_71 : decode cX9_comesWalker 71 = .ok (.idiv, 1) := by decide +kernel
theorem dX9_comesWalker_72 : decode cX9_comesWalker 72 = .ok (.iastore, 1) := by decide +kernel
theorem dX9_comesWalker_73 : decode cX9_comesWalker 73 = .ok (.aload_n 0, 1) := by decide +kernel
theorem dX9_comesWalker_74 : decode cX9_comesWalker 74 = .ok (.getfield 34, 3) := by decide +kernel
theorem dX9_comesWalker_77 : decode cX9_comesWalker 77 = .ok (.aload_n 0, 1) := by decide +kernel
theorem dX9_comesWalker_78 : decode cX9_comesWalker 78 = .ok (.getfield 86, 3) := by decide +kernel
theorem dX9_comesWalker_81 : decode cX9_comesWalker 81 = .ok (.bipush 9, 2) := by decide +kernel
theorem dX9_comesWalker_83 : decode cX9_comesWalker 83 = .ok (.iastore, 1) := by decide +kernel
theorem dX9_comesWalker_84 : decode cX9_comesWalker 84 = .ok (.aload_n 0, 1) := by decide +kernel
theorem dX9_comesWalker_85 : decode cX9_comesWalker 85 = .ok (.getfield 37, 3) := by decide +kernel
theorem dX9_comesWalker_88 : decode cX9_comesWalker 88 = .ok (.aload_n 0, 1) := by decide +kernel
theorem dX9_comesWalker_89 : decode cX9_comesWalker 89 = .ok (.getfield 86, 3) := by decide +kernel
theorem dX9_comesWalker_92 : decode cX9_comesWalker 92 = .ok (.iconst 5, 1) := by decide +kernel
theorem dX9_comesWalker_93 : decode cX9_comesWalker 93 = .ok (.iastore, 1) := by decide +kernel
theorem dX9_comesWalker_94 : decode cX9_comesWalker 94 = .ok (.aload_n 0, 1) := by decide +kernel
