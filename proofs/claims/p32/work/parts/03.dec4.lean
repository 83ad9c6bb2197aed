theorem dX9_cheat_17 : decode cX9_cheat 17 = .ok (.aload_n 0, 1) := by decide +kernel
theorem dX9_cheat_18 : decode cX9_cheat 18 = .ok (.iload_n 1, 1) := by decide +kernel
theorem dX9_cheat_19 : decode cX9_cheat 19 = .ok (.iload_n 2, 1) := by decide +kernel
theorem dX9_cheat_20 : decode cX9_cheat 20 = .ok (.invokevirtual 254, 3) := by decide +kernel
theorem dX9_cheat_23 : decode cX9_cheat 23 = .ok (.istore 4, 2) := by decide +kernel
theorem dX9_cheat_25 : decode cX9_cheat 25 = .ok (.iconst 1, 1) := by decide +kernel
theorem dX9_cheat_26 : decode cX9_cheat 26 = .ok (.istore 5, 2) := by decide +kernel
theorem dX9_cheat_28 : decode cX9_cheat 28 = .ok (.iload 5, 2) := by decide +kernel
theorem dX9_cheat_30 : decode cX9_cheat 30 = .ok (.bipush 100, 2) := by decide +kernel
theorem dX9_cheat_32 : decode cX9_cheat 32 = .ok (.if_icmp .ge 32, 3) := by decide +kernel
theorem dX9_cheat_35 : decode cX9_cheat 35 = .ok (.aload_n 0, 1) := by decide +kernel
theorem dX9_cheat_36 : decode cX9_cheat 36 = .ok (.iload_n 1, 1) := by decide +kernel
theorem dX9_cheat_37 : decode cX9_cheat 37 = .ok (.iload 5, 2) := by decide +kernel
theorem dX9_cheat_39 : decode cX9_cheat 39 = .ok (.iload_n 2, 1) := by decide +kernel
theorem dX9_cheat_40 : decode cX9_cheat 40 = .ok (.invokevirtual 257, 3) := by decide +kernel
theorem dX9_cheat_43 : decode cX9_cheat 43 = .ok (.istore 6, 2) := by decide +kernel
theorem dX9_cheat_45 : decode cX9_cheat 45 = .ok (.iload 6, 2) := by decide +kernel
theorem dX9_cheat_47 : decode cX9_cheat 47 = .ok (.iload 4, 2) := by decide +kernel
theorem dX9_cheat_49 : decode cX9_cheat 49 = .ok (.if_icmp .le 9, 3) := by decide +kernel
theorem dX9_cheat_52 : decode cX9_cheat 52 = .ok (.iload 6, 2) := by decide +kernel
theorem dX9_cheat_54 : decode cX9_cheat 54 = .ok (.iload 4, 2) := by decide +kernel
theorem dX9_cheat_56 : decode cX9_cheat 56 = .ok (.isub, 1) := by decide +kernel
theorem dX9_cheat_57 : decode cX9_cheat 57 = .ok (.ireturn, 1) := by decide +kernel
theorem dX9_cheat_58 : decode cX9_cheat 58 = .ok (.iinc 5 10, 3) := by decide +kernel
theorem dX9_cheat_61 : decode cX9_cheat 61 = .ok (.goto (-33), 3) := by decide +kernel
theorem dX9_cheat_64 : decode cX9_cheat 64 = .ok (.iconst 0, 1) := by decide +kernel
theorem dX9_cheat_65 : decode cX9_cheat 65 = .ok (.ireturn, 1) := by decide +kernel
theorem dX9_plays_0 : decode cX9_plays 0 = .ok (.aload_n 0, 1) := by decide +kernel
theorem dX9_plays_1 : decode cX9_plays 1 = .ok (.iconst 0, 1) := by decide +kernel
theorem dX9_plays_2 : decode cX9_plays 2 = .ok (.putfield 260, 3) := by decide +kernel
theorem dX9_plays_5 : decode cX9_plays 5 = .ok (.aload_n 0, 1) := by decide +kernel
theorem dX9_plays_6 : decode cX9_plays 6 = .ok (.iconst 0, 1) := by decide +kernel
theorem dX9_plays_7 : decode cX9_plays 7 = .ok (.putfield 263, 3) := by decide +kernel
theorem dX9_plays_10 : decode cX9_plays 10 = .ok (.aload_n 0, 1) := by decide +kernel
theorem dX9_plays_11 : decode cX9_plays 11 = .ok (.invokevirtual 233, 3) := by decide +kernel
theorem dX9_plays_14 : decode cX9_plays 14 = .ok (.ifCond .ne 37, 3) := by decide +kernel
theorem dX9_plays_17 : decode cX9_plays 17 = .ok (.aload_n 0, 1) := by decide +kernel
theorem dX9_plays_18 : decode cX9_plays 18 = .ok (.dup, 1) := by decide +kernel
theorem dX9_plays_19 : decode cX9_plays 19 = .ok (.getfield 260, 3) := by decide +kernel
theorem dX9_plays_22 : decode cX9_plays 22 = .ok (.iconst 1, 1) := by decide +kernel
theorem dX9_plays_23 : decode cX9_plays 23 = .ok (.iadd, 1) := by decide +kernel
theorem dX9_plays_24 : decode cX9_plays 24 = .ok (.putfield 260, 3) := by decide +kernel
theorem dX9_plays_27 : decode cX9_plays 27 = .ok (.aload_n 0, 1) := by decide +kernel
theorem dX9_plays_28 : decode cX9_plays 28 = .ok (.dup, 1) := by decide +kernel
theorem dX9_plays_29 : decode cX9_plays 29 = .ok (.getfield 263, 3) := by decide +kernel
theorem dX9_plays_32 : decode cX9_plays 32 = .ok (.aload_n 0, 1) := by decide +kernel
theorem dX9_plays_33 : decode cX9_plays 33 = .ok (.invokevirtual 236, 3) := by decide +kernel
theorem dX9_plays_36 : decode cX9_plays 36 = .ok (.ifCond .eq 7, 3) := by decide +kernel
theorem dX9_plays_39 : decode cX9_plays 39 = .ok (.iconst 1, 1) := by decide +kernel
theorem dX9_plays_40 : decode cX9_plays 40 = .ok (.goto 4, 3) := by decide +kernel
theorem dX9_plays_43 : decode cX9_plays 43 = .ok (.iconst 0, 1) := by decide +kernel
theorem dX9_plays_44 : decode cX9_plays 44 = .ok (.iadd, 1) := by decide +kernel
theorem dX9_plays_45 : decode cX9_plays 45 = .ok (.putfield 263, 3) := by decide +kernel
theorem dX9_plays_48 : decode cX9_plays 48 = .ok (.goto (-38), 3) := by decide +kernel
theorem dX9_plays_51 : decode cX9_plays 51 = .ok (.aload_n 0, 1) := by decide +kernel
theorem dX9_plays_52 : decode cX9_plays 52 = .ok (.bipush (-9), 2) := by decide +kernel
theorem dX9_plays_54 : decode cX9_plays 54 = .ok (.putfield 266, 3) := by decide +kernel
theorem dX9_plays_57 : decode cX9_plays 57 = .ok (.iconst 0, 1) := by decide +kernel
theorem dX9_plays_58 : decode cX9_plays 58 = .ok (.istore_n 1, 1) := by decide +kernel
theorem dX9_plays_59 : decode cX9_plays 59 = .ok (.iload_n 1, 1) := by decide +kernel
theorem dX9_plays_60 : decode cX9_plays 60 = .ok (.aload_n 0, 1) := by decide +kernel
theorem dX9_plays_61 : decode cX9_plays 61 = .ok (.getfield 86, 3) := by decide +kernel
theorem dX9_plays_64 : decode cX9_plays 64 = .ok (.if_icmp .ge 39, 3) := by decide +kernel
theorem dX9_plays_67 : decode cX9_plays 67 = .ok (.aload_n 0, 1) := by decide +kernel
theorem dX9_plays_68 : decode cX9_plays 68 = .ok (.aload_n 0, 1) := by decide +kernel
theorem dX9_plays_69 : decode cX9_plays 69 = .ok (.getfield 22, 3) := by decide +kernel
theorem dX9_plays_72 : decode cX9_plays 72 = .ok (.iload_n 1, 1) := by decide +kernel
theorem dX9_plays_73 : decode cX9_plays 73 = .ok (.iaload, 1) := by decide +kernel
theorem dX9_plays_74 : decode cX9_plays 74 = .ok (.iconst 1, 1) := by decide +kernel
theorem dX9_plays_75 : decode cX9_plays 75 = .ok (.if_icmp .ne 15, 3) := by decide +kernel
theorem dX9_plays_78 : decode cX9_plays 78 = .ok (.aload_n 0, 1) := by decide +kernel
theorem dX9_plays_79 : decode cX9_plays 79 = .ok (.invokevirtual 218, 3) := by decide +kernel
theorem dX9_plays_82 : decode cX9_plays 82 = .ok (.iconst 1, 1) := by decide +kernel
theorem dX9_plays_83 : decode cX9_plays 83 = .ok (.if_icmp .ne 7, 3) := by decide +kernel
theorem dX9_plays_86 : decode cX9_plays 86 = .ok (.iload_n 1, 1) := by decide +kernel
theorem dX9_plays_87 : decode cX9_plays 87 = .ok (.goto 7, 3) := by decide +kernel
theorem dX9_plays_90 : decode cX9_plays 90 = .ok (.aload_n 0, 1) := by decide +kernel
theorem dX9_plays_91 : decode cX9_plays 91 = .ok (.getfield 266, 3) := by decide +kernel
theorem dX9_plays_94 : decode cX9_plays 94 = .ok (.putfield 266, 3) := by decide +kernel
theorem dX9_plays_97 : decode cX9_plays 97 = .ok (.iinc 1 1, 3) := by decide +kernel
theorem dX9_plays_100 : decode cX9_plays 100 = .ok (.goto (-41), 3) := by decide +kernel
theorem dX9_plays_103 : decode cX9_plays 103 = .ok (.return_, 1) := by decide +kernel
theorem dX9_partyBy_0 : decode cX9_partyBy 0 = .ok (.aload_n 0, 1) := by decide +kernel
theorem dX9_partyBy_1 : decode cX9_partyBy 1 = .ok (.iconst 1, 1) := by decide +kernel
theorem dX9_partyBy_2 : decode cX9_partyBy 2 = .ok (.iconst 1, 1) := by decide +kernel
theorem dX9_partyBy_3 : decode cX9_partyBy 3 = .ok (.invokevirtual 163, 3) := by decide +kernel
theorem dX9_partyBy_6 : decode cX9_partyBy 6 = .ok (.aload_n 0, 1) := by decide +kernel
theorem dX9_partyBy_7 : decode cX9_partyBy 7 = .ok (.iload_n 1, 1) := by decide +kernel
theorem dX9_partyBy_8 : decode cX9_partyBy 8 = .ok (.putfield 50, 3) := by decide +kernel
theorem dX9_partyBy_11 : decode cX9_partyBy 11 = .ok (.aload_n 0, 1) := by decide +kernel
theorem dX9_partyBy_12 : decode cX9_partyBy 12 = .ok (.iload_n 2, 1) := by decide +kernel
theorem dX9_partyBy_13 : decode cX9_partyBy 13 = .ok (.putfield 129, 3) := by decide +kernel
theorem dX9_partyBy_16 : decode cX9_partyBy 16 = .ok (.aload_n 0, 1) := by decide +kernel
theorem dX9_partyBy_17 : decode cX9_partyBy 17 = .ok (.iload_n 3, 1) := by decide +kernel
theorem dX9_partyBy_18 : decode cX9_partyBy 18 = .ok (.putfield 126, 3) := by decide +kernel
theorem dX9_partyBy_21 : decode cX9_partyBy 21 = .ok (.aload_n 0, 1) := by decide +kernel
theorem dX9_partyBy_22 : decode cX9_partyBy 22 = .ok (.invokevirtual 269, 3) := by decide +kernel
theorem dX9_partyBy_25 : decode cX9_partyBy 25 = .ok (.aload_n 0, 1) := by decide +kernel
theorem dX9_partyBy_26 : decode cX9_partyBy 26 = .ok (.iconst 1, 1) := by decide +kernel
theorem dX9_partyBy_27 : decode cX9_partyBy 27 = .ok (.iconst 0, 1) := by decide +kernel
theorem dX9_partyBy_28 : decode cX9_partyBy 28 = .ok (.invokevirtual 163, 3) := by decide +kernel
theorem dX9_partyBy_31 : decode cX9_partyBy 31 = .ok (.return_, 1) := by decide +kernel
theorem dX9_lasts_0 : decode cX9_lasts 0 = .ok (.iload_n 1, 1) := by decide +kernel
theorem dX9_lasts_1 : decode cX9_lasts 1 = .ok (.iconst 0, 1) := by decide +kernel
theorem dX9_lasts_2 : decode cX9_lasts 2 = .ok (.iconst 2, 1) := by decide +kernel
theorem dX9_lasts_3 : decode cX9_lasts 3 = .ok (.invokestatic 108, 3) := by decide +kernel
theorem dX9_lasts_6 : decode cX9_lasts 6 = .ok (.ifCond .ne 10, 3) := by decide +kernel
theorem dX9_lasts_9 : decode cX9_lasts 9 = .ok (.aload_n 0, 1) := by decide +kernel
theorem dX9_lasts_10 : decode cX9_lasts 10 = .ok (.bipush (-2), 2) := by decide +kernel
theorem dX9_lasts_12 : decode cX9_lasts 12 = .ok (.invokevirtual 96, 3) := by decide +kernel
theorem dX9_lasts_15 : decode cX9_lasts 15 = .ok (.ireturn, 1) := by decide +kernel
theorem dX9_lasts_16 : decode cX9_lasts 16 = .ok (.aload_n 0, 1) := by decide +kernel
theorem dX9_lasts_17 : decode cX9_lasts 17 = .ok (.invokevirtual 233, 3) := by decide +kernel
theorem dX9_lasts_20 : decode cX9_lasts 20 = .ok (.ifCond .eq 10, 3) := by decide +kernel
theorem dX9_lasts_23 : decode cX9_lasts 23 = .ok (.aload_n 0, 1) := by decide +kernel
theorem dX9_lasts_24 : decode cX9_lasts 24 = .ok (.bipush (-3), 2) := by decide +kernel
theorem dX9_lasts_26 : decode cX9_lasts 26 = .ok (.invokevirtual 96, 3) := by decide +kernel
theorem dX9_lasts_29 : decode cX9_lasts 29 = .ok (.ireturn, 1) := by decide +kernel
theorem dX9_lasts_30 : decode cX9_lasts 30 = .ok (.aload_n 0, 1) := by decide +kernel
theorem dX9_lasts_31 : decode cX9_lasts 31 = .ok (.aload_n 0, 1) := by decide +kernel
theorem dX9_lasts_32 : decode cX9_lasts 32 = .ok (.getfield 50, 3) := by decide +kernel
theorem dX9_lasts_35 : decode cX9_lasts 35 = .ok (.aload_n 0, 1) := by decide +kernel
theorem dX9_lasts_36 : decode cX9_lasts 36 = .ok (.getfield 129, 3) := by decide +kernel
theorem dX9_lasts_39 : decode cX9_lasts 39 = .ok (.aload_n 0, 1) := by decide +kernel
theorem dX9_lasts_40 : decode cX9_lasts 40 = .ok (.getfield 126, 3) := by decide +kernel
theorem dX9_lasts_43 : decode cX9_lasts 43 = .ok (.invokevirtual 272, 3) := by decide +kernel
theorem dX9_lasts_46 : decode cX9_lasts 46 = .ok (.iload_n 1, 1) := by decide +kernel
theorem dX9_lasts_47 : decode cX9_lasts 47 = .ok (.ifCond .ne 10, 3) := by decide +kernel
theorem dX9_lasts_50 : decode cX9_lasts 50 = .ok (.aload_n 0, 1) := by decide +kernel
theorem dX9_lasts_51 : decode cX9_lasts 51 = .ok (.getfield 260, 3) := by decide +kernel
theorem dX9_lasts_54 : decode cX9_lasts 54 = .ok (.goto 19, 3) := by decide +kernel
theorem dX9_lasts_57 : decode cX9_lasts 57 = .ok (.iload_n 1, 1) := by decide +kernel
theorem dX9_lasts_58 : decode cX9_lasts 58 = .ok (.iconst 1, 1) := by decide +kernel
theorem dX9_lasts_59 : decode cX9_lasts 59 = .ok (.if_icmp .ne 10, 3) := by decide +kernel
theorem dX9_lasts_62 : decode cX9_lasts 62 = .ok (.aload_n 0, 1) := by decide +kernel
theorem dX9_lasts_63 : decode cX9_lasts 63 = .ok (.getfield 263, 3) := by decide +kernel
theorem dX9_lasts_66 : decode cX9_lasts 66 = .ok (.goto 7, 3) := by decide +kernel
theorem dX9_lasts_69 : decode cX9_lasts 69 = .ok (.aload_n 0, 1) := by decide +kernel
theorem dX9_lasts_70 : decode cX9_lasts 70 = .ok (.getfield 266, 3) := by decide +kernel
theorem dX9_lasts_73 : decode cX9_lasts 73 = .ok (.ireturn, 1) := by decide +kernel
theorem dX9_wins_0 : decode cX9_wins 0 = .ok (.aload_n 0, 1) := by decide +kernel
theorem dX9_wins_1 : decode cX9_wins 1 = .ok (.iload_n 1, 1) := by decide +kernel
theorem dX9_wins_2 : decode cX9_wins 2 = .ok (.invokevirtual 123, 3) := by decide +kernel
theorem dX9_wins_5 : decode cX9_wins 5 = .ok (.ifCond .ne 9, 3) := by decide +kernel
theorem dX9_wins_8 : decode cX9_wins 8 = .ok (.aload_n 0, 1) := by decide +kernel
theorem dX9_wins_9 : decode cX9_wins 9 = .ok (.iconst (-1), 1) := by decide +kernel
theorem dX9_wins_10 : decode cX9_wins 10 = .ok (.invokevirtual 96, 3) := by decide +kernel
theorem dX9_wins_13 : decode cX9_wins 13 = .ok (.ireturn, 1) := by decide +kernel
theorem dX9_wins_14 : decode cX9_wins 14 = .ok (.iload_n 2, 1) := by decide +kernel
theorem dX9_wins_15 : decode cX9_wins 15 = .ok (.iconst 1, 1) := by decide +kernel
theorem dX9_wins_16 : decode cX9_wins 16 = .ok (.bipush 20, 2) := by decide +kernel
theorem dX9_wins_18 : decode cX9_wins 18 = .ok (.invokestatic 112, 3) := by decide +kernel
theorem dX9_wins_21 : decode cX9_wins 21 = .ok (.istore 4, 2) := by decide +kernel
theorem dX9_wins_23 : decode cX9_wins 23 = .ok (.iload 4, 2) := by decide +kernel
theorem dX9_wins_25 : decode cX9_wins 25 = .ok (.ifCond .ne 14, 3) := by decide +kernel
theorem dX9_wins_28 : decode cX9_wins 28 = .ok (.aload_n 0, 1) := by decide +kernel
theorem dX9_wins_29 : decode cX9_wins 29 = .ok (.invokevirtual 233, 3) := by decide +kernel
theorem dX9_wins_32 : decode cX9_wins 32 = .ok (.ifCond .eq 7, 3) := by decide +kernel
theorem dX9_wins_35 : decode cX9_wins 35 = .ok (.bipush (-3), 2) := by decide +kernel
theorem dX9_wins_37 : decode cX9_wins 37 = .ok (.istore 4, 2) := by decide +kernel
theorem dX9_wins_39 : decode cX9_wins 39 = .ok (.iload 4, 2) := by decide +kernel
theorem dX9_wins_41 : decode cX9_wins 41 = .ok (.ifCond .eq 10, 3) := by decide +kernel
theorem dX9_wins_44 : decode cX9_wins 44 = .ok (.aload_n 0, 1) := by decide +kernel
theorem dX9_wins_45 : decode cX9_wins 45 = .ok (.iload 4, 2) := by decide +kernel
theorem dX9_wins_47 : decode cX9_wins 47 = .ok (.invokevirtual 96, 3) := by decide +kernel
theorem dX9_wins_50 : decode cX9_wins 50 = .ok (.ireturn, 1) := by decide +kernel
theorem dX9_wins_51 : decode cX9_wins 51 = .ok (.iconst 0, 1) := by decide +kernel
theorem dX9_wins_52 : decode cX9_wins 52 = .ok (.istore 5, 2) := by decide +kernel
theorem dX9_wins_54 : decode cX9_wins 54 = .ok (.iconst 0, 1) := by decide +kernel
theorem dX9_wins_55 : decode cX9_wins 55 = .ok (.istore 6, 2) := by decide +kernel
theorem dX9_wins_57 : decode cX9_wins 57 = .ok (.iload 6, 2) := by decide +kernel
theorem dX9_wins_59 : decode cX9_wins 59 = .ok (.iload_n 2, 1) := by decide +kernel
theorem dX9_wins_60 : decode cX9_wins 60 = .ok (.if_icmp .ge 43, 3) := by decide +kernel
theorem dX9_wins_63 : decode cX9_wins 63 = .ok (.aload_n 0, 1) := by decide +kernel
theorem dX9_wins_64 : decode cX9_wins 64 = .ok (.iload_n 3, 1) := by decide +kernel
theorem dX9_wins_65 : decode cX9_wins 65 = .ok (.iload 6, 2) := by decide +kernel
theorem dX9_wins_67 : decode cX9_wins 67 = .ok (.iadd, 1) := by decide +kernel
theorem dX9_wins_68 : decode cX9_wins 68 = .ok (.aload_n 0, 1) := by decide +kernel
theorem dX9_wins_69 : decode cX9_wins 69 = .ok (.getfield 129, 3) := by decide +kernel
theorem dX9_wins_72 : decode cX9_wins 72 = .ok (.aload_n 0, 1) := by decide +kernel
theorem dX9_wins_73 : decode cX9_wins 73 = .ok (.getfield 126, 3) := by decide +kernel
theorem dX9_wins_76 : decode cX9_wins 76 = .ok (.invokevirtual 272, 3) := by decide +kernel
theorem dX9_wins_79 : decode cX9_wins 79 = .ok (.iload 5, 2) := by decide +kernel
theorem dX9_wins_81 : decode cX9_wins 81 = .ok (.aload_n 0, 1) := by decide +kernel
theorem dX9_wins_82 : decode cX9_wins 82 = .ok (.getfield 266, 3) := by decide +kernel
theorem dX9_wins_85 : decode cX9_wins 85 = .ok (.iload_n 1, 1) := by decide +kernel
theorem dX9_wins_86 : decode cX9_wins 86 = .ok (.if_icmp .ne 7, 3) := by decide +kernel
theorem dX9_wins_89 : decode cX9_wins 89 = .ok (.iconst 1, 1) := by decide +kernel
theorem dX9_wins_90 : decode cX9_wins 90 = .ok (.goto 4, 3) := by decide +kernel
theorem dX9_wins_93 : decode cX9_wins 93 = .ok (.iconst 0, 1) := by decide +kernel
theorem dX9_wins_94 : decode cX9_wins 94 = .ok (.iadd, 1) := by decide +kernel
theorem dX9_wins_95 : decode cX9_wins 95 = .ok (.istore 5, 2) := by decide +kernel
theorem dX9_wins_97 : decode cX9_wins 97 = .ok (.iinc 6 1, 3) := by decide +kernel
theorem dX9_wins_100 : decode cX9_wins 100 = .ok (.goto (-43), 3) := by decide +kernel
theorem dX9_wins_103 : decode cX9_wins 103 = .ok (.iload 5, 2) := by decide +kernel
theorem dX9_wins_105 : decode cX9_wins 105 = .ok (.ireturn, 1) := by decide +kernel
theorem dX9_fairest_0 : decode cX9_fairest 0 = .ok (.iload_n 1, 1) := by decide +kernel
theorem dX9_fairest_1 : decode cX9_fairest 1 = .ok (.iconst 1, 1) := by decide +kernel
theorem dX9_fairest_2 : decode cX9_fairest 2 = .ok (.bipush 20, 2) := by decide +kernel
theorem dX9_fairest_4 : decode cX9_fairest 4 = .ok (.invokestatic 112, 3) := by decide +kernel
theorem dX9_fairest_7 : decode cX9_fairest 7 = .ok (.istore_n 3, 1) := by decide +kernel
theorem dX9_fairest_8 : decode cX9_fairest 8 = .ok (.iload_n 3, 1) := by decide +kernel
theorem dX9_fairest_9 : decode cX9_fairest 9 = .ok (.ifCond .ne 13, 3) := by decide +kernel
theorem dX9_fairest_12 : decode cX9_fairest 12 = .ok (.aload_n 0, 1) := by decide +kernel
theorem dX9_fairest_13 : decode cX9_fairest 13 = .ok (.invokevirtual 233, 3) := by decide +kernel
theorem dX9_fairest_16 : decode cX9_fairest 16 = .ok (.ifCond .eq 6, 3) := by decide +kernel
theorem dX9_fairest_19 : decode cX9_fairest 19 = .ok (.bipush (-3), 2) := by decide +kernel
theorem dX9_fairest_21 : decode cX9_fairest 21 = .ok (.istore_n 3, 1) := by decide +kernel
theorem dX9_fairest_22 : decode cX9_fairest 22 = .ok (.iload_n 3, 1) := by decide +kernel
theorem dX9_fairest_23 : decode cX9_fairest 23 = .ok (.ifCond .eq 9, 3) := by decide +kernel
theorem dX9_fairest_26 : decode cX9_fairest 26 = .ok (.aload_n 0, 1) := by decide +kernel
theorem dX9_fairest_27 : decode cX9_fairest 27 = .ok (.iload_n 3, 1) := by decide +kernel
theorem dX9_fairest_28 : decode cX9_fairest 28 = .ok (.invokevirtual 96, 3) := by decide +kernel
theorem dX9_fairest_31 : decode cX9_fairest 31 = .ok (.ireturn, 1) := by decide +kernel
theorem dX9_fairest_32 : decode cX9_fairest 32 = .ok (.iconst 0, 1) := by decide +kernel
theorem dX9_fairest_33 : decode cX9_fairest 33 = .ok (.istore 4, 2) := by decide +kernel
theorem dX9_fairest_35 : decode cX9_fairest 35 = .ok (.iconst (-1), 1) := by decide +kernel
theorem dX9_fairest_36 : decode cX9_fairest 36 = .ok (.istore 5, 2) := by decide +kernel
theorem dX9_fairest_38 : decode cX9_fairest 38 = .ok (.iconst 0, 1) := by decide +kernel
theorem dX9_fairest_39 : decode cX9_fairest 39 = .ok (.istore 6, 2) := by decide +kernel
theorem dX9_fairest_41 : decode cX9_fairest 41 = .ok (.iconst 0, 1) := by decide +kernel
theorem dX9_fairest_42 : decode cX9_fairest 42 = .ok (.istore 7, 2) := by decide +kernel
theorem dX9_fairest_44 : decode cX9_fairest 44 = .ok (.iload 7, 2) := by decide +kernel
theorem dX9_fairest_46 : decode cX9_fairest 46 = .ok (.iconst 3, 1) := by decide +kernel
theorem dX9_fairest_47 : decode cX9_fairest 47 = .ok (.if_icmp .ge 142, 3) := by decide +kernel
theorem dX9_fairest_50 : decode cX9_fairest 50 = .ok (.iconst 0, 1) := by decide +kernel
theorem dX9_fairest_51 : decode cX9_fairest 51 = .ok (.istore 8, 2) := by decide +kernel
theorem dX9_fairest_53 : decode cX9_fairest 53 = .ok (.iconst 0, 1) := by decide +kernel
theorem dX9_fairest_54 : decode cX9_fairest 54 = .ok (.istore 9, 2) := by decide +kernel
theorem dX9_fairest_56 : decode cX9_fairest 56 = .ok (.iconst 0, 1) := by decide +kernel
theorem dX9_fairest_57 : decode cX9_fairest 57 = .ok (.istore 10, 2) := by decide +kernel
theorem dX9_fairest_59 : decode cX9_fairest 59 = .ok (.iload 10, 2) := by decide +kernel
theorem dX9_fairest_61 : decode cX9_fairest 61 = .ok (.iload_n 1, 1) := by decide +kernel
theorem dX9_fairest_62 : decode cX9_fairest 62 = .ok (.if_icmp .ge 54, 3) := by decide +kernel
theorem dX9_fairest_65 : decode cX9_fairest 65 = .ok (.aload_n 0, 1) := by decide +kernel
theorem dX9_fairest_66 : decode cX9_fairest 66 = .ok (.iload_n 2, 1) := by decide +kernel
theorem dX9_fairest_67 : decode cX9_fairest 67 = .ok (.iload 10, 2) := by decide +kernel
theorem dX9_fairest_69 : decode cX9_fairest 69 = .ok (.iadd, 1) := by decide +kernel
theorem dX9_fairest_70 : decode cX9_fairest 70 = .ok (.iload 7, 2) := by decide +kernel
theorem dX9_fairest_72 : decode cX9_fairest 72 = .ok (.aload_n 0, 1) := by decide +kernel
theorem dX9_fairest_73 : decode cX9_fairest 73 = .ok (.getfield 126, 3) := by decide +kernel
theorem dX9_fairest_76 : decode cX9_fairest 76 = .ok (.invokevirtual 272, 3) := by decide +kernel
theorem dX9_fairest_79 : decode cX9_fairest 79 = .ok (.iload 8, 2) := by decide +kernel
theorem dX9_fairest_81 : decode cX9_fairest 81 = .ok (.aload_n 0, 1) := by decide +kernel
theorem dX9_fairest_82 : decode cX9_fairest 82 = .ok (.getfield 266, 3) := by decide +kernel
theorem dX9_fairest_85 : decode cX9_fairest 85 = .ok (.ifCond .ge 7, 3) := by decide +kernel
theorem dX9_fairest_88 : decode cX9_fairest 88 = .ok (.iconst 0, 1) := by decide +kernel
theorem dX9_fairest_89 : decode cX9_fairest 89 = .ok (.goto 9, 3) := by decide +kernel
theorem dX9_fairest_92 : decode cX9_fairest 92 = .ok (.iconst 1, 1) := by decide +kernel
theorem dX9_fairest_93 : decode cX9_fairest 93 = .ok (.aload_n 0, 1) := by decide +kernel
theorem dX9_fairest_94 : decode cX9_fairest 94 = .ok (.getfield 266, 3) := by decide +kernel
theorem dX9_fairest_97 : decode cX9_fairest 97 = .ok (.ishl, 1) := by decide +kernel
theorem dX9_fairest_98 : decode cX9_fairest 98 = .ok (.ior, 1) := by decide +kernel
theorem dX9_fairest_99 : decode cX9_fairest 99 = .ok (.istore 8, 2) := by decide +kernel
theorem dX9_fairest_101 : decode cX9_fairest 101 = .ok (.iload 9, 2) := by decide +kernel
theorem dX9_fairest_103 : decode cX9_fairest 103 = .ok (.aload_n 0, 1) := by decide +kernel
theorem dX9_fairest_104 : decode cX9_fairest 104 = .ok (.getfield 260, 3) := by decide +kernel
theorem dX9_fairest_107 : decode cX9_fairest 107 = .ok (.iadd, 1) := by decide +kernel
theorem dX9_fairest_108 : decode cX9_fairest 108 = .ok (.istore 9, 2) := by decide +kernel
theorem dX9_fairest_110 : decode cX9_fairest 110 = .ok (.iinc 10 1, 3) := by decide +kernel
theorem dX9_fairest_113 : decode cX9_fairest 113 = .ok (.goto (-54), 3) := by decide +kernel
theorem dX9_fairest_116 : decode cX9_fairest 116 = .ok (.iconst 0, 1) := by decide +kernel
theorem dX9_fairest_117 : decode cX9_fairest 117 = .ok (.istore 10, 2) := by decide +kernel
theorem dX9_fairest_119 : decode cX9_fairest 119 = .ok (.iconst 0, 1) := by decide +kernel
theorem dX9_fairest_120 : decode cX9_fairest 120 = .ok (.istore 11, 2) := by decide +kernel
theorem dX9_fairest_122 : decode cX9_fairest 122 = .ok (.iload 11, 2) := by decide +kernel
theorem dX9_fairest_124 : decode cX9_fairest 124 = .ok (.bipush 12, 2) := by decide +kernel
theorem dX9_fairest_126 : decode cX9_fairest 126 = .ok (.if_icmp .ge 21, 3) := by decide +kernel
theorem dX9_fairest_129 : decode cX9_fairest 129 = .ok (.iload 10, 2) := by decide +kernel
theorem dX9_fairest_131 : decode cX9_fairest 131 = .ok (.iload 8, 2) := by decide +kernel
theorem dX9_fairest_133 : decode cX9_fairest 133 = .ok (.iload 11, 2) := by decide +kernel
theorem dX9_fairest_135 : decode cX9_fairest 135 = .ok (.ishr, 1) := by decide +kernel
theorem dX9_fairest_136 : decode cX9_fairest 136 = .ok (.iconst 1, 1) := by decide +kernel
theorem dX9_fairest_137 : decode cX9_fairest 137 = .ok (.iand, 1) := by decide +kernel
theorem dX9_fairest_138 : decode cX9_fairest 138 = .ok (.iadd, 1) := by decide +kernel
theorem dX9_fairest_139 : decode cX9_fairest 139 = .ok (.istore 10, 2) := by decide +kernel
theorem dX9_fairest_141 : decode cX9_fairest 141 = .ok (.iinc 11 1, 3) := by decide +kernel
theorem dX9_fairest_144 : decode cX9_fairest 144 = .ok (.goto (-22), 3) := by decide +kernel
theorem dX9_fairest_147 : decode cX9_fairest 147 = .ok (.iload 10, 2) := by decide +kernel
theorem dX9_fairest_149 : decode cX9_fairest 149 = .ok (.iload 5, 2) := by decide +kernel
theorem dX9_fairest_151 : decode cX9_fairest 151 = .ok (.if_icmp .lt 32, 3) := by decide +kernel
theorem dX9_fairest_154 : decode cX9_fairest 154 = .ok (.iload 10, 2) := by decide +kernel
theorem dX9_fairest_156 : decode cX9_fairest 156 = .ok (.iload 5, 2) := by decide +kernel
theorem dX9_fairest_158 : decode cX9_fairest 158 = .ok (.if_icmp .ne 13, 3) := by decide +kernel
theorem dX9_fairest_161 : decode cX9_fairest 161 = .ok (.iload 9, 2) := by decide +kernel
theorem dX9_fairest_163 : decode cX9_fairest 163 = .ok (.iload 6, 2) := by decide +kernel
theorem dX9_fairest_165 : decode cX9_fairest 165 = .ok (.if_icmp .lt 6, 3) := by decide +kernel
theorem dX9_fairest_168 : decode cX9_fairest 168 = .ok (.goto 15, 3) := by decide +kernel
theorem dX9_fairest_171 : decode cX9_fairest 171 = .ok (.iload 10, 2) := by decide +kernel
theorem dX9_fairest_173 : decode cX9_fairest 173 = .ok (.istore 5, 2) := by decide +kernel
theorem dX9_fairest_175 : decode cX9_fairest 175 = .ok (.iload 9, 2) := by decide +kernel
theorem dX9_fairest_177 : decode cX9_fairest 177 = .ok (.istore 6, 2) := by decide +kernel
theorem dX9_fairest_179 : decode cX9_fairest 179 = .ok (.iload 7, 2) := by decide +kernel
theorem dX9_fairest_181 : decode cX9_fairest 181 = .ok (.istore 4, 2) := by decide +kernel
theorem dX9_fairest_183 : decode cX9_fairest 183 = .ok (.iinc 7 1, 3) := by decide +kernel
theorem dX9_fairest_186 : decode cX9_fairest 186 = .ok (.goto (-142), 3) := by decide +kernel
theorem dX9_fairest_189 : decode cX9_fairest 189 = .ok (.iload 4, 2) := by decide +kernel
theorem dX9_fairest_191 : decode cX9_fairest 191 = .ok (.ireturn, 1) := by decide +kernel
theorem dX9_shortest_0 : decode cX9_shortest 0 = .ok (.aload_n 0, 1) := by decide +kernel
theorem dX9_shortest_1 : decode cX9_shortest 1 = .ok (.invokevirtual 233, 3) := by decide +kernel
theorem dX9_shortest_4 : decode cX9_shortest 4 = .ok (.ifCond .eq 10, 3) := by decide +kernel
theorem dX9_shortest_7 : decode cX9_shortest 7 = .ok (.aload_n 0, 1) := by decide +kernel
theorem dX9_shortest_8 : decode cX9_shortest 8 = .ok (.bipush (-3), 2) := by decide +kernel
theorem dX9_shortest_10 : decode cX9_shortest 10 = .ok (.invokevirtual 96, 3) := by decide +kernel
theorem dX9_shortest_13 : decode cX9_shortest 13 = .ok (.ireturn, 1) := by decide +kernel
theorem dX9_shortest_14 : decode cX9_shortest 14 = .ok (.iconst 0, 1) := by decide +kernel
theorem dX9_shortest_15 : decode cX9_shortest 15 = .ok (.istore_n 1, 1) := by decide +kernel
theorem dX9_shortest_16 : decode cX9_shortest 16 = .ok (.iconst (-1), 1) := by decide +kernel
theorem dX9_shortest_17 : decode cX9_shortest 17 = .ok (.istore_n 2, 1) := by decide +kernel
theorem dX9_shortest_18 : decode cX9_shortest 18 = .ok (.iconst 0, 1) := by decide +kernel
theorem dX9_shortest_19 : decode cX9_shortest 19 = .ok (.istore_n 3, 1) := by decide +kernel
theorem dX9_shortest_20 : decode cX9_shortest 20 = .ok (.iload_n 3, 1) := by decide +kernel
theorem dX9_shortest_21 : decode cX9_shortest 21 = .ok (.iconst 5, 1) := by decide +kernel
theorem dX9_shortest_22 : decode cX9_shortest 22 = .ok (.if_icmp .ge 44, 3) := by decide +kernel
theorem dX9_shortest_25 : decode cX9_shortest 25 = .ok (.aload_n 0, 1) := by decide +kernel
theorem dX9_shortest_26 : decode cX9_shortest 26 = .ok (.aload_n 0, 1) := by decide +kernel
theorem dX9_shortest_27 : decode cX9_shortest 27 = .ok (.getfield 50, 3) := by decide +kernel
theorem dX9_shortest_30 : decode cX9_shortest 30 = .ok (.aload_n 0, 1) := by decide +kernel
theorem dX9_shortest_31 : decode cX9_shortest 31 = .ok (.getfield 129, 3) := by decide +kernel
theorem dX9_shortest_34 : decode cX9_shortest 34 = .ok (.iload_n 3, 1) := by decide +kernel
theorem dX9_shortest_35 : decode cX9_shortest 35 = .ok (.invokevirtual 272, 3) := by decide +kernel
theorem dX9_shortest_38 : decode cX9_shortest 38 = .ok (.iload_n 2, 1) := by decide +kernel
theorem dX9_shortest_39 : decode cX9_shortest 39 = .ok (.ifCond .lt 14, 3) := by decide +kernel
theorem dX9_shortest_42 : decode cX9_shortest 42 = .ok (.aload_n 0, 1) := by decide +kernel
theorem dX9_shortest_43 : decode cX9_shortest 43 = .ok (.getfield 260, 3) := by decide +kernel
theorem dX9_shortest_46 : decode cX9_shortest 46 = .ok (.iload_n 2, 1) := by decide +kernel
theorem dX9_shortest_47 : decode cX9_shortest 47 = .ok (.if_icmp .lt 6, 3) := by decide +kernel
theorem dX9_shortest_50 : decode cX9_shortest 50 = .ok (.goto 10, 3) := by decide +kernel
theorem dX9_shortest_53 : decode cX9_shortest 53 = .ok (.aload_n 0, 1) := by decide +kernel
theorem dX9_shortest_54 : decode cX9_shortest 54 = .ok (.getfield 260, 3) := by decide +kernel
theorem dX9_shortest_57 : decode cX9_shortest 57 = .ok (.istore_n 2, 1) := by decide +kernel
theorem dX9_shortest_58 : decode cX9_shortest 58 = .ok (.iload_n 3, 1) := by decide +kernel
theorem dX9_shortest_59 : decode cX9_shortest 59 = .ok (.istore_n 1, 1) := by decide +kernel
theorem dX9_shortest_60 : decode cX9_shortest 60 = .ok (.iinc 3 1, 3) := by decide +kernel
theorem dX9_shortest_63 : decode cX9_shortest 63 = .ok (.goto (-43), 3) := by decide +kernel
theorem dX9_shortest_66 : decode cX9_shortest 66 = .ok (.iload_n 1, 1) := by decide +kernel
theorem dX9_shortest_67 : decode cX9_shortest 67 = .ok (.ireturn, 1) := by decide +kernel
theorem dX9_row_0 : decode cX9_row 0 = .ok (.iload_n 1, 1) := by decide +kernel
theorem dX9_row_1 : decode cX9_row 1 = .ok (.iconst 1, 1) := by decide +kernel
theorem dX9_row_2 : decode cX9_row 2 = .ok (.sipush 300, 3) := by decide +kernel
theorem dX9_row_5 : decode cX9_row 5 = .ok (.invokestatic 112, 3) := by decide +kernel
theorem dX9_row_8 : decode cX9_row 8 = .ok (.istore_n 2, 1) := by decide +kernel
theorem dX9_row_9 : decode cX9_row 9 = .ok (.iload_n 2, 1) := by decide +kernel
theorem dX9_row_10 : decode cX9_row 10 = .ok (.ifCond .ne 15, 3) := by decide +kernel
theorem dX9_row_13 : decode cX9_row 13 = .ok (.aload_n 0, 1) := by decide +kernel
theorem dX9_row_14 : decode cX9_row 14 = .ok (.getfield 275, 3) := by decide +kernel
theorem dX9_row_17 : decode cX9_row 17 = .ok (.bipush 16, 2) := by decide +kernel
theorem dX9_row_19 : decode cX9_row 19 = .ok (.if_icmp .ne 6, 3) := by decide +kernel
theorem dX9_row_22 : decode cX9_row 22 = .ok (.bipush (-6), 2) := by decide +kernel
theorem dX9_row_24 : decode cX9_row 24 = .ok (.istore_n 2, 1) := by decide +kernel
theorem dX9_row_25 : decode cX9_row 25 = .ok (.iload_n 2, 1) := by decide +kernel
theorem dX9_row_26 : decode cX9_row 26 = .ok (.ifCond .eq 9, 3) := by decide +kernel
theorem dX9_row_29 : decode cX9_row 29 = .ok (.aload_n 0, 1) := by decide +kernel
theorem dX9_row_30 : decode cX9_row 30 = .ok (.iload_n 2, 1) := by decide +kernel
theorem dX9_row_31 : decode cX9_row 31 = .ok (.invokevirtual 96, 3) := by decide +kernel
theorem dX9_row_34 : decode cX9_row 34 = .ok (.ireturn, 1) := by decide +kernel
theorem dX9_row_35 : decode cX9_row 35 = .ok (.aload_n 0, 1) := by decide +kernel
theorem dX9_row_36 : decode cX9_row 36 = .ok (.getfield 80, 3) := by decide +kernel
theorem dX9_row_39 : decode cX9_row 39 = .ok (.aload_n 0, 1) := by decide +kernel
theorem dX9_row_40 : decode cX9_row 40 = .ok (.getfield 275, 3) := by decide +kernel
theorem dX9_row_43 : decode cX9_row 43 = .ok (.iload_n 1, 1) := by decide +kernel
theorem dX9_row_44 : decode cX9_row 44 = .ok (.iastore, 1) := by decide +kernel
theorem dX9_row_45 : decode cX9_row 45 = .ok (.aload_n 0, 1) := by decide +kernel
theorem dX9_row_46 : decode cX9_row 46 = .ok (.dup, 1) := by decide +kernel
theorem dX9_row_47 : decode cX9_row 47 = .ok (.getfield 275, 3) := by decide +kernel
theorem dX9_row_50 : decode cX9_row 50 = .ok (.iconst 1, 1) := by decide +kernel
theorem dX9_row_51 : decode cX9_row 51 = .ok (.iadd, 1) := by decide +kernel
theorem dX9_row_52 : decode cX9_row 52 = .ok (.putfield 275, 3) := by decide +kernel
theorem dX9_row_55 : decode cX9_row 55 = .ok (.aload_n 0, 1) := by decide +kernel
theorem dX9_row_56 : decode cX9_row 56 = .ok (.getfield 275, 3) := by decide +kernel
theorem dX9_row_59 : decode cX9_row 59 = .ok (.ireturn, 1) := by decide +kernel
theorem dX9_could_0 : decode cX9_could 0 = .ok (.bipush 31, 2) := by decide +kernel
theorem dX9_could_2 : decode cX9_could 2 = .ok (.istore_n 1, 1) := by decide +kernel
theorem dX9_could_3 : decode cX9_could 3 = .ok (.iconst 0, 1) := by decide +kernel
theorem dX9_could_4 : decode cX9_could 4 = .ok (.istore_n 2, 1) := by decide +kernel
theorem dX9_could_5 : decode cX9_could 5 = .ok (.iload_n 2, 1) := by decide +kernel
theorem dX9_could_6 : decode cX9_could 6 = .ok (.aload_n 0, 1) := by decide +kernel
theorem dX9_could_7 : decode cX9_could 7 = .ok (.getfield 275, 3) := by decide +kernel
theorem dX9_could_10 : decode cX9_could 10 = .ok (.if_icmp .ge 74, 3) := by decide +kernel
theorem dX9_could_13 : decode cX9_could 13 = .ok (.aload_n 0, 1) := by decide +kernel
theorem dX9_could_14 : decode cX9_could 14 = .ok (.getfield 80, 3) := by decide +kernel
theorem dX9_could_17 : decode cX9_could 17 = .ok (.iload_n 2, 1) := by decide +kernel
theorem dX9_could_18 : decode cX9_could 18 = .ok (.iaload, 1) := by decide +kernel
theorem dX9_could_19 : decode cX9_could 19 = .ok (.bipush 8, 2) := by decide +kernel
theorem dX9_could_21 : decode cX9_could 21 = .ok (.irem, 1) := by decide +kernel
theorem dX9_could_22 : decode cX9_could 22 = .ok (.ifCond .eq 20, 3) := by decide +kernel
theorem dX9_could_25 : decode cX9_could 25 = .ok (.aload_n 0, 1) := by decide +kernel
theorem dX9_could_26 : decode cX9_could 26 = .ok (.getfield 80, 3) := by decide +kernel
theorem dX9_could_29 : decode cX9_could 29 = .ok (.iload_n 2, 1) := by decide +kernel
theorem dX9_could_30 : decode cX9_could 30 = .ok (.iaload, 1) := by decide +kernel
theorem dX9_could_31 : decode cX9_could 31 = .ok (.sipush 300, 3) := by decide +kernel
theorem dX9_could_34 : decode cX9_could 34 = .ok (.if_icmp .eq 8, 3) := by decide +kernel
theorem dX9_could_37 : decode cX9_could 37 = .ok (.iload_n 1, 1) := by decide +kernel
theorem dX9_could_38 : decode cX9_could 38 = .ok (.bipush (-3), 2) := by decide +kernel
theorem dX9_could_40 : decode cX9_could 40 = .ok (.iand, 1) := by decide +kernel
theorem dX9_could_41 : decode cX9_could 41 = .ok (.istore_n 1, 1) := by decide +kernel
theorem dX9_could_42 : decode cX9_could 42 = .ok (.aload_n 0, 1) := by decide +kernel
theorem dX9_could_43 : decode cX9_could 43 = .ok (.getfield 80, 3) := by decide +kernel
theorem dX9_could_46 : decode cX9_could 46 = .ok (.iload_n 2, 1) := by decide +kernel
theorem dX9_could_47 : decode cX9_could 47 = .ok (.iaload, 1) := by decide +kernel
theorem dX9_could_48 : decode cX9_could 48 = .ok (.aload_n 0, 1) := by decide +kernel
theorem dX9_could_49 : decode cX9_could 49 = .ok (.getfield 47, 3) := by decide +kernel
theorem dX9_could_52 : decode cX9_could 52 = .ok (.if_icmp .ge 8, 3) := by decide +kernel
theorem dX9_could_55 : decode cX9_could 55 = .ok (.iload_n 1, 1) := by decide +kernel
theorem dX9_could_56 : decode cX9_could 56 = .ok (.bipush (-5), 2) := by decide +kernel
theorem dX9_could_58 : decode cX9_could 58 = .ok (.iand, 1) := by decide +kernel
theorem dX9_could_59 : decode cX9_could 59 = .ok (.istore_n 1, 1) := by decide +kernel
theorem dX9_could_60 : decode cX9_could 60 = .ok (.aload_n 0, 1) := by decide +kernel
theorem dX9_could_61 : decode cX9_could 61 = .ok (.getfield 80, 3) := by decide +kernel
theorem dX9_could_64 : decode cX9_could 64 = .ok (.iload_n 2, 1) := by decide +kernel
theorem dX9_could_65 : decode cX9_could 65 = .ok (.iaload, 1) := by decide +kernel
theorem dX9_could_66 : decode cX9_could 66 = .ok (.aload_n 0, 1) := by decide +kernel
theorem dX9_could_67 : decode cX9_could 67 = .ok (.getfield 47, 3) := by decide +kernel
theorem dX9_could_70 : decode cX9_could 70 = .ok (.if_icmp .eq 8, 3) := by decide +kernel
theorem dX9_could_73 : decode cX9_could 73 = .ok (.iload_n 1, 1) := by decide +kernel
theorem dX9_could_74 : decode cX9_could 74 = .ok (.bipush (-17), 2) := by decide +kernel
theorem dX9_could_76 : decode cX9_could 76 = .ok (.iand, 1) := by decide +kernel
theorem dX9_could_77 : decode cX9_could 77 = .ok (.istore_n 1, 1) := by decide +kernel
theorem dX9_could_78 : decode cX9_could 78 = .ok (.iinc 2 1, 3) := by decide +kernel
theorem dX9_could_81 : decode cX9_could 81 = .ok (.goto (-76), 3) := by decide +kernel
theorem dX9_could_84 : decode cX9_could 84 = .ok (.iload_n 1, 1) := by decide +kernel
theorem dX9_could_85 : decode cX9_could 85 = .ok (.ireturn, 1) := by decide +kernel
theorem dX9_next_0 : decode cX9_next 0 = .ok (.iload_n 1, 1) := by decide +kernel
theorem dX9_next_1 : decode cX9_next 1 = .ok (.iconst 1, 1) := by decide +kernel
theorem dX9_next_2 : decode cX9_next 2 = .ok (.sipush 300, 3) := by decide +kernel
theorem dX9_next_5 : decode cX9_next 5 = .ok (.invokestatic 112, 3) := by decide +kernel
theorem dX9_next_8 : decode cX9_next 8 = .ok (.istore_n 2, 1) := by decide +kernel
theorem dX9_next_9 : decode cX9_next 9 = .ok (.iload_n 2, 1) := by decide +kernel
theorem dX9_next_10 : decode cX9_next 10 = .ok (.ifCond .ne 13, 3) := by decide +kernel
theorem dX9_next_13 : decode cX9_next 13 = .ok (.aload_n 0, 1) := by decide +kernel
theorem dX9_next_14 : decode cX9_next 14 = .ok (.getfield 275, 3) := by decide +kernel
theorem dX9_next_17 : decode cX9_next 17 = .ok (.ifCond .ne 6, 3) := by decide +kernel
theorem dX9_next_20 : decode cX9_next 20 = .ok (.bipush (-3), 2) := by decide +kernel
theorem dX9_next_22 : decode cX9_next 22 = .ok (.istore_n 2, 1) := by decide +kernel
theorem dX9_next_23 : decode cX9_next 23 = .ok (.iload_n 2, 1) := by decide +kernel
theorem dX9_next_24 : decode cX9_next 24 = .ok (.ifCond .eq 9, 3) := by decide +kernel
theorem dX9_next_27 : decode cX9_next 27 = .ok (.aload_n 0, 1) := by decide +kernel
theorem dX9_next_28 : decode cX9_next 28 = .ok (.iload_n 2, 1) := by decide +kernel
theorem dX9_next_29 : decode cX9_next 29 = .ok (.invokevirtual 96, 3) := by decide +kernel
theorem dX9_next_32 : decode cX9_next 32 = .ok (.ireturn, 1) := by decide +kernel
theorem dX9_next_33 : decode cX9_next 33 = .ok (.iconst 0, 1) := by decide +kernel
theorem dX9_next_34 : decode cX9_next 34 = .ok (.istore_n 3, 1) := by decide +kernel
theorem dX9_next_35 : decode cX9_next 35 = .ok (.iconst 0, 1) := by decide +kernel
theorem dX9_next_36 : decode cX9_next 36 = .ok (.istore 4, 2) := by decide +kernel
theorem dX9_next_38 : decode cX9_next 38 = .ok (.iload 4, 2) := by decide +kernel
theorem dX9_next_40 : decode cX9_next 40 = .ok (.aload_n 0, 1) := by decide +kernel
theorem dX9_next_41 : decode cX9_next 41 = .ok (.getfield 275, 3) := by decide +kernel
theorem dX9_next_44 : decode cX9_next 44 = .ok (.if_icmp .ge 28, 3) := by decide +kernel
theorem dX9_next_47 : decode cX9_next 47 = .ok (.iload_n 3, 1) := by decide +kernel
theorem dX9_next_48 : decode cX9_next 48 = .ok (.aload_n 0, 1) := by decide +kernel
theorem dX9_next_49 : decode cX9_next 49 = .ok (.getfield 80, 3) := by decide +kernel
theorem dX9_next_52 : decode cX9_next 52 = .ok (.iload 4, 2) := by decide +kernel
theorem dX9_next_54 : decode cX9_next 54 = .ok (.iaload, 1) := by decide +kernel
theorem dX9_next_55 : decode cX9_next 55 = .ok (.iload_n 1, 1) := by decide +kernel
theorem dX9_next_56 : decode cX9_next 56 = .ok (.if_icmp .gt 7, 3) := by decide +kernel
theorem dX9_next_59 : decode cX9_next 59 = .ok (.iconst 1, 1) := by decide +kernel
theorem dX9_next_60 : decode cX9_next 60 = .ok (.goto 4, 3) := by decide +kernel
theorem dX9_next_63 : decode cX9_next 63 = .ok (.iconst 0, 1) := by decide +kernel
theorem dX9_next_64 : decode cX9_next 64 = .ok (.iadd, 1) := by decide +kernel
theorem dX9_next_65 : decode cX9_next 65 = .ok (.istore_n 3, 1) := by decide +kernel
theorem dX9_next_66 : decode cX9_next 66 = .ok (.iinc 4 1, 3) := by decide +kernel
theorem dX9_next_69 : decode cX9_next 69 = .ok (.goto (-31), 3) := by decide +kernel
theorem dX9_next_72 : decode cX9_next 72 = .ok (.bipush 100, 2) := by decide +kernel
theorem dX9_next_74 : decode cX9_next 74 = .ok (.iload_n 3, 1) := by decide +kernel
theorem dX9_next_75 : decode cX9_next 75 = .ok (.imul, 1) := by decide +kernel
theorem dX9_next_76 : decode cX9_next 76 = .ok (.aload_n 0, 1) := by decide +kernel
theorem dX9_next_77 : decode cX9_next 77 = .ok (.getfield 275, 3) := by decide +kernel
theorem dX9_next_80 : decode cX9_next 80 = .ok (.idiv, 1) := by decide +kernel
theorem dX9_next_81 : decode cX9_next 81 = .ok (.istore_n 3, 1) := by decide +kernel
theorem dX9_next_82 : decode cX9_next 82 = .ok (.aload_n 0, 1) := by decide +kernel
theorem dX9_next_83 : decode cX9_next 83 = .ok (.iconst 0, 1) := by decide +kernel
theorem dX9_next_84 : decode cX9_next 84 = .ok (.putfield 275, 3) := by decide +kernel
theorem dX9_next_87 : decode cX9_next 87 = .ok (.iload_n 3, 1) := by decide +kernel
theorem dX9_next_88 : decode cX9_next 88 = .ok (.ireturn, 1) := by decide +kernel
theorem dX9_team_0 : decode cX9_team 0 = .ok (.aload_n 0, 1) := by decide +kernel
theorem dX9_team_1 : decode cX9_team 1 = .ok (.iload_n 1, 1) := by decide +kernel
theorem dX9_team_2 : decode cX9_team 2 = .ok (.invokevirtual 239, 3) := by decide +kernel
theorem dX9_team_5 : decode cX9_team 5 = .ok (.ifCond .eq 16, 3) := by decide +kernel
theorem dX9_team_8 : decode cX9_team 8 = .ok (.aload_n 0, 1) := by decide +kernel
theorem dX9_team_9 : decode cX9_team 9 = .ok (.iload_n 2, 1) := by decide +kernel
theorem dX9_team_10 : decode cX9_team 10 = .ok (.invokevirtual 239, 3) := by decide +kernel
theorem dX9_team_13 : decode cX9_team 13 = .ok (.ifCond .eq 8, 3) := by decide +kernel
theorem dX9_team_16 : decode cX9_team 16 = .ok (.iload_n 1, 1) := by decide +kernel
theorem dX9_team_17 : decode cX9_team 17 = .ok (.iload_n 2, 1) := by decide +kernel
theorem dX9_team_18 : decode cX9_team 18 = .ok (.if_icmp .ne 9, 3) := by decide +kernel
theorem dX9_team_21 : decode cX9_team 21 = .ok (.aload_n 0, 1) := by decide +kernel
theorem dX9_team_22 : decode cX9_team 22 = .ok (.iconst (-1), 1) := by decide +kernel
theorem dX9_team_23 : decode cX9_team 23 = .ok (.invokevirtual 96, 3) := by decide +kernel
theorem dX9_team_26 : decode cX9_team 26 = .ok (.ireturn, 1) := by decide +kernel
theorem dX9_team_27 : decode cX9_team 27 = .ok (.iload 4, 2) := by decide +kernel
theorem dX9_team_29 : decode cX9_team 29 = .ok (.iconst 0, 1) := by decide +kernel
theorem dX9_team_30 : decode cX9_team 30 = .ok (.iconst 1, 1) := by decide +kernel
theorem dX9_team_31 : decode cX9_team 31 = .ok (.invokestatic 108, 3) := by decide +kernel
theorem dX9_team_34 : decode cX9_team 34 = .ok (.ifCond .ne 10, 3) := by decide +kernel
theorem dX9_team_37 : decode cX9_team 37 = .ok (.aload_n 0, 1) := by decide +kernel
theorem dX9_team_38 : decode cX9_team 38 = .ok (.bipush (-2), 2) := by decide +kernel
theorem dX9_team_40 : decode cX9_team 40 = .ok (.invokevirtual 96, 3) := by decide +kernel
theorem dX9_team_43 : decode cX9_team 43 = .ok (.ireturn, 1) := by decide +kernel
theorem dX9_team_44 : decode cX9_team 44 = .ok (.iload_n 3, 1) := by decide +kernel
theorem dX9_team_45 : decode cX9_team 45 = .ok (.iconst 1, 1) := by decide +kernel
theorem dX9_team_46 : decode cX9_team 46 = .ok (.sipush 200, 3) := by decide +kernel
theorem dX9_team_49 : decode cX9_team 49 = .ok (.invokestatic 112, 3) := by decide +kernel
theorem dX9_team_52 : decode cX9_team 52 = .ok (.istore 5, 2) := by decide +kernel
theorem dX9_team_54 : decode cX9_team 54 = .ok (.iload 5, 2) := by decide +kernel
theorem dX9_team_56 : decode cX9_team 56 = .ok (.ifCond .eq 10, 3) := by decide +kernel
theorem dX9_team_59 : decode cX9_team 59 = .ok (.aload_n 0, 1) := by decide +kernel
theorem dX9_team_60 : decode cX9_team 60 = .ok (.iload 5, 2) := by decide +kernel
theorem dX9_team_62 : decode cX9_team 62 = .ok (.invokevirtual 96, 3) := by decide +kernel
theorem dX9_team_65 : decode cX9_team 65 = .ok (.ireturn, 1) := by decide +kernel
theorem dX9_team_66 : decode cX9_team 66 = .ok (.aload_n 0, 1) := by decide +kernel
theorem dX9_team_67 : decode cX9_team 67 = .ok (.iload_n 3, 1) := by decide +kernel
theorem dX9_team_68 : decode cX9_team 68 = .ok (.iload_n 1, 1) := by decide +kernel
theorem dX9_team_69 : decode cX9_team 69 = .ok (.iload_n 2, 1) := by decide +kernel
theorem dX9_team_70 : decode cX9_team 70 = .ok (.invokevirtual 248, 3) := by decide +kernel
theorem dX9_team_73 : decode cX9_team 73 = .ok (.iload 4, 2) := by decide +kernel
theorem dX9_team_75 : decode cX9_team 75 = .ok (.iconst 1, 1) := by decide +kernel
theorem dX9_team_76 : decode cX9_team 76 = .ok (.if_icmp .ne 10, 3) := by decide +kernel
theorem dX9_team_79 : decode cX9_team 79 = .ok (.aload_n 0, 1) := by decide +kernel
theorem dX9_team_80 : decode cX9_team 80 = .ok (.getfield 245, 3) := by decide +kernel
theorem dX9_team_83 : decode cX9_team 83 = .ok (.goto 38, 3) := by decide +kernel
theorem dX9_team_86 : decode cX9_team 86 = .ok (.aload_n 0, 1) := by decide +kernel
theorem dX9_team_87 : decode cX9_team 87 = .ok (.getfield 242, 3) := by decide +kernel
theorem dX9_team_90 : decode cX9_team 90 = .ok (.aload_n 0, 1) := by decide +kernel
theorem dX9_team_91 : decode cX9_team 91 = .ok (.getfield 77, 3) := by decide +kernel
theorem dX9_team_94 : decode cX9_team 94 = .ok (.iload_n 1, 1) := by decide +kernel
theorem dX9_team_95 : decode cX9_team 95 = .ok (.iaload, 1) := by decide +kernel
theorem dX9_team_96 : decode cX9_team 96 = .ok (.aload_n 0, 1) := by decide +kernel
theorem dX9_team_97 : decode cX9_team 97 = .ok (.getfield 77, 3) := by decide +kernel
theorem dX9_team_100 : decode cX9_team 100 = .ok (.iload_n 2, 1) := by decide +kernel
theorem dX9_team_101 : decode cX9_team 101 = .ok (.iaload, 1) := by decide +kernel
theorem dX9_team_102 : decode cX9_team 102 = .ok (.if_icmp .le 12, 3) := by decide +kernel
theorem dX9_team_105 : decode cX9_team 105 = .ok (.aload_n 0, 1) := by decide +kernel
theorem dX9_team_106 : decode cX9_team 106 = .ok (.getfield 77, 3) := by decide +kernel
theorem dX9_team_109 : decode cX9_team 109 = .ok (.iload_n 1, 1) := by decide +kernel
theorem dX9_team_110 : decode cX9_team 110 = .ok (.iaload, 1) := by decide +kernel
theorem dX9_team_111 : decode cX9_team 111 = .ok (.goto 9, 3) := by decide +kernel
theorem dX9_team_114 : decode cX9_team 114 = .ok (.aload_n 0, 1) := by decide +kernel
theorem dX9_team_115 : decode cX9_team 115 = .ok (.getfield 77, 3) := by decide +kernel
theorem dX9_team_118 : decode cX9_team 118 = .ok (.iload_n 2, 1) := by decide +kernel
theorem dX9_team_119 : decode cX9_team 119 = .ok (.iaload, 1) := by decide +kernel
theorem dX9_team_120 : decode cX9_team 120 = .ok (.isub, 1) := by decide +kernel
theorem dX9_team_121 : decode cX9_team 121 = .ok (.ireturn, 1) := by decide +kernel
theorem dX9_film_0 : decode cX9_film 0 = .ok (.aload_n 0, 1) := by decide +kernel
theorem dX9_film_1 : decode cX9_film 1 = .ok (.iload_n 1, 1) := by decide +kernel
theorem dX9_film_2 : decode cX9_film 2 = .ok (.invokevirtual 92, 3) := by decide +kernel
theorem dX9_film_5 : decode cX9_film 5 = .ok (.ifCond .ne 9, 3) := by decide +kernel
theorem dX9_film_8 : decode cX9_film 8 = .ok (.aload_n 0, 1) := by decide +kernel
theorem dX9_film_9 : decode cX9_film 9 = .ok (.iconst (-1), 1) := by decide +kernel
theorem dX9_film_10 : decode cX9_film 10 = .ok (.invokevirtual 96, 3) := by decide +kernel
theorem dX9_film_13 : decode cX9_film 13 = .ok (.ireturn, 1) := by decide +kernel
theorem dX9_film_14 : decode cX9_film 14 = .ok (.aload_n 0, 1) := by decide +kernel
theorem dX9_film_15 : decode cX9_film 15 = .ok (.getfield 278, 3) := by decide +kernel
theorem dX9_film_18 : decode cX9_film 18 = .ok (.bipush 60, 2) := by decide +kernel
theorem dX9_film_20 : decode cX9_film 20 = .ok (.if_icmp .ne 10, 3) := by decide +kernel
theorem dX9_film_23 : decode cX9_film 23 = .ok (.aload_n 0, 1) := by decide +kernel
theorem dX9_film_24 : decode cX9_film 24 = .ok (.bipush (-6), 2) := by decide +kernel
theorem dX9_film_26 : decode cX9_film 26 = .ok (.invokevirtual 96, 3) := by decide +kernel
theorem dX9_film_29 : decode cX9_film 29 = .ok (.ireturn, 1) := by decide +kernel
theorem dX9_film_30 : decode cX9_film 30 = .ok (.aload_n 0, 1) := by decide +kernel
theorem dX9_film_31 : decode cX9_film 31 = .ok (.getfield 83, 3) := by decide +kernel
theorem dX9_film_34 : decode cX9_film 34 = .ok (.aload_n 0, 1) := by decide +kernel
theorem dX9_film_35 : decode cX9_film 35 = .ok (.getfield 278, 3) := by decide +kernel
theorem dX9_film_38 : decode cX9_film 38 = .ok (.iload_n 1, 1) := by decide +kernel
theorem dX9_film_39 : decode cX9_film 39 = .ok (.iastore, 1) := by decide +kernel
theorem dX9_film_40 : decode cX9_film 40 = .ok (.aload_n 0, 1) := by decide +kernel
theorem dX9_film_41 : decode cX9_film 41 = .ok (.dup, 1) := by decide +kernel
theorem dX9_film_42 : decode cX9_film 42 = .ok (.getfield 278, 3) := by decide +kernel
theorem dX9_film_45 : decode cX9_film 45 = .ok (.iconst 1, 1) := by decide +kernel
theorem dX9_film_46 : decode cX9_film 46 = .ok (.iadd, 1) := by decide +kernel
theorem dX9_film_47 : decode cX9_film 47 = .ok (.putfield 278, 3) := by decide +kernel
theorem dX9_film_50 : decode cX9_film 50 = .ok (.aload_n 0, 1) := by decide +kernel
theorem dX9_film_51 : decode cX9_film 51 = .ok (.getfield 278, 3) := by decide +kernel
theorem dX9_film_54 : decode cX9_film 54 = .ok (.ireturn, 1) := by decide +kernel
theorem dX9_judge_0 : decode cX9_judge 0 = .ok (.aload_n 0, 1) := by decide +kernel
theorem dX9_judge_1 : decode cX9_judge 1 = .ok (.iload_n 1, 1) := by decide +kernel
theorem dX9_judge_2 : decode cX9_judge 2 = .ok (.invokevirtual 239, 3) := by decide +kernel
theorem dX9_judge_5 : decode cX9_judge 5 = .ok (.ifCond .ne 9, 3) := by decide +kernel
theorem dX9_judge_8 : decode cX9_judge 8 = .ok (.aload_n 0, 1) := by decide +kernel
theorem dX9_judge_9 : decode cX9_judge 9 = .ok (.iconst (-1), 1) := by decide +kernel
theorem dX9_judge_10 : decode cX9_judge 10 = .ok (.invokevirtual 96, 3) := by decide +kernel
theorem dX9_judge_13 : decode cX9_judge 13 = .ok (.ireturn, 1) := by decide +kernel
theorem dX9_judge_14 : decode cX9_judge 14 = .ok (.aload_n 0, 1) := by decide +kernel
theorem dX9_judge_15 : decode cX9_judge 15 = .ok (.getfield 278, 3) := by decide +kernel
theorem dX9_judge_18 : decode cX9_judge 18 = .ok (.istore_n 2, 1) := by decide +kernel
theorem dX9_judge_19 : decode cX9_judge 19 = .ok (.aload_n 0, 1) := by decide +kernel
theorem dX9_judge_20 : decode cX9_judge 20 = .ok (.iconst 0, 1) := by decide +kernel
theorem dX9_judge_21 : decode cX9_judge 21 = .ok (.putfield 278, 3) := by decide +kernel
theorem dX9_judge_24 : decode cX9_judge 24 = .ok (.aload_n 0, 1) := by decide +kernel
theorem dX9_judge_25 : decode cX9_judge 25 = .ok (.iconst 1, 1) := by decide +kernel
theorem dX9_judge_26 : decode cX9_judge 26 = .ok (.iconst 1, 1) := by decide +kernel
theorem dX9_judge_27 : decode cX9_judge 27 = .ok (.invokevirtual 163, 3) := by decide +kernel
theorem dX9_judge_30 : decode cX9_judge 30 = .ok (.bipush (-9), 2) := by decide +kernel
theorem dX9_judge_32 : decode cX9_judge 32 = .ok (.istore_n 3, 1) := by decide +kernel
theorem dX9_judge_33 : decode cX9_judge 33 = .ok (.iconst 0, 1) := by decide +kernel
theorem dX9_judge_34 : decode cX9_judge 34 = .ok (.istore 4, 2) := by decide +kernel
theorem dX9_judge_36 : decode cX9_judge 36 = .ok (.iload 4, 2) := by decide +kernel
theorem dX9_judge_38 : decode cX9_judge 38 = .ok (.iload_n 2, 1) := by decide +kernel
theorem dX9_judge_39 : decode cX9_judge 39 = .ok (.if_icmp .ge 36, 3) := by decide +kernel
theorem dX9_judge_42 : decode cX9_judge 42 = .ok (.iload_n 3, 1) := by decide +kernel
theorem dX9_judge_43 : decode cX9_judge 43 = .ok (.ifCond .ge 32, 3) := by decide +kernel
theorem dX9_judge_46 : decode cX9_judge 46 = .ok (.aload_n 0, 1) := by decide +kernel
theorem dX9_judge_47 : decode cX9_judge 47 = .ok (.invokevirtual 224, 3) := by decide +kernel
theorem dX9_judge_50 : decode cX9_judge 50 = .ok (.aload_n 0, 1) := by decide +kernel
theorem dX9_judge_51 : decode cX9_judge 51 = .ok (.getfield 16, 3) := by decide +kernel
theorem dX9_judge_54 : decode cX9_judge 54 = .ok (.iload_n 1, 1) := by decide +kernel
theorem dX9_judge_55 : decode cX9_judge 55 = .ok (.iaload, 1) := by decide +kernel
theorem dX9_judge_56 : decode cX9_judge 56 = .ok (.aload_n 0, 1) := by decide +kernel
theorem dX9_judge_57 : decode cX9_judge 57 = .ok (.getfield 83, 3) := by decide +kernel
theorem dX9_judge_60 : decode cX9_judge 60 = .ok (.iload 4, 2) := by decide +kernel
theorem dX9_judge_62 : decode cX9_judge 62 = .ok (.iaload, 1) := by decide +kernel
theorem dX9_judge_63 : decode cX9_judge 63 = .ok (.if_icmp .eq 6, 3) := by decide +kernel
theorem dX9_judge_66 : decode cX9_judge 66 = .ok (.iload 4, 2) := by decide +kernel
theorem dX9_judge_68 : decode cX9_judge 68 = .ok (.istore_n 3, 1) := by decide +kernel
theorem dX9_judge_69 : decode cX9_judge 69 = .ok (.iinc 4 1, 3) := by decide +kernel
theorem dX9_judge_72 : decode cX9_judge 72 = .ok (.goto (-36), 3) := by decide +kernel
theorem dX9_judge_75 : decode cX9_judge 75 = .ok (.aload_n 0, 1) := by decide +kernel
theorem dX9_judge_76 : decode cX9_judge 76 = .ok (.iconst 1, 1) := by decide +kernel
theorem dX9_judge_77 : decode cX9_judge 77 = .ok (.iconst 0, 1) := by decide +kernel
theorem dX9_judge_78 : decode cX9_judge 78 = .ok (.invokevirtual 163, 3) := by decide +kernel
theorem dX9_judge_81 : decode cX9_judge 81 = .ok (.iload_n 3, 1) := by decide +kernel
theorem dX9_judge_82 : decode cX9_judge 82 = .ok (.ireturn, 1) := by decide +kernel
theorem dX9_image_0 : decode cX9_image 0 = .ok (.aload_n 0, 1) := by decide +kernel
theorem dX9_image_1 : decode cX9_image 1 = .ok (.iconst 1, 1) := by decide +kernel
theorem dX9_image_2 : decode cX9_image 2 = .ok (.putfield 281, 3) := by decide +kernel
theorem dX9_image_5 : decode cX9_image 5 = .ok (.aload_n 0, 1) := by decide +kernel
theorem dX9_image_6 : decode cX9_image 6 = .ok (.iconst 0, 1) := by decide +kernel
theorem dX9_image_7 : decode cX9_image 7 = .ok (.iconst 1, 1) := by decide +kernel
theorem dX9_image_8 : decode cX9_image 8 = .ok (.invokevirtual 163, 3) := by decide +kernel
theorem dX9_image_11 : decode cX9_image 11 = .ok (.aload_n 0, 1) := by decide +kernel
theorem dX9_image_12 : decode cX9_image 12 = .ok (.getfield 86, 3) := by decide +kernel
theorem dX9_image_15 : decode cX9_image 15 = .ok (.ireturn, 1) := by decide +kernel
theorem dX9_restore_0 : decode cX9_restore 0 = .ok (.aload_n 0, 1) := by decide +kernel
theorem dX9_restore_1 : decode cX9_restore 1 = .ok (.getfield 281, 3) := by decide +kernel
theorem dX9_restore_4 : decode cX9_restore 4 = .ok (.ifCond .ne 10, 3) := by decide +kernel
theorem dX9_restore_7 : decode cX9_restore 7 = .ok (.aload_n 0, 1) := by decide +kernel
theorem dX9_restore_8 : decode cX9_restore 8 = .ok (.bipush (-3), 2) := by decide +kernel
theorem dX9_restore_10 : decode cX9_restore 10 = .ok (.invokevirtual 96, 3) := by decide +kernel
theorem dX9_restore_13 : decode cX9_restore 13 = .ok (.ireturn, 1) := by decide +kernel
theorem dX9_restore_14 : decode cX9_restore 14 = .ok (.aload_n 0, 1) := by decide +kernel
theorem dX9_restore_15 : decode cX9_restore 15 = .ok (.iconst 0, 1) := by decide +kernel
theorem dX9_restore_16 : decode cX9_restore 16 = .ok (.iconst 0, 1) := by decide +kernel
theorem dX9_restore_17 : decode cX9_restore 17 = .ok (.invokevirtual 163, 3) := by decide +kernel
theorem dX9_restore_20 : decode cX9_restore 20 = .ok (.aload_n 0, 1) := by decide +kernel
theorem dX9_restore_21 : decode cX9_restore 21 = .ok (.getfield 86, 3) := by decide +kernel
theorem dX9_restore_24 : decode cX9_restore 24 = .ok (.ireturn, 1) := by decide +kernel
theorem dX9_count_0 : decode cX9_count 0 = .ok (.iload_n 1, 1) := by decide +kernel
theorem dX9_count_1 : decode cX9_count 1 = .ok (.bipush 11, 2) := by decide +kernel
theorem dX9_count_3 : decode cX9_count 3 = .ok (.bipush 16, 2) := by decide +kernel
theorem dX9_count_5 : decode cX9_count 5 = .ok (.invokestatic 108, 3) := by decide +kernel
theorem dX9_count_8 : decode cX9_count 8 = .ok (.ifCond .eq 13, 3) := by decide +kernel
theorem dX9_count_11 : decode cX9_count 11 = .ok (.aload_n 0, 1) := by decide +kernel
theorem dX9_count_12 : decode cX9_count 12 = .ok (.getfield 7, 3) := by decide +kernel
theorem dX9_count_15 : decode cX9_count 15 = .ok (.iload_n 1, 1) := by decide +kernel
theorem dX9_count_16 : decode cX9_count 16 = .ok (.bipush 10, 2) := by decide +kernel
theorem dX9_count_18 : decode cX9_count 18 = .ok (.isub, 1) := by decide +kernel
theorem dX9_count_19 : decode cX9_count 19 = .ok (.iaload, 1) := by decide +kernel
theorem dX9_count_20 : decode cX9_count 20 = .ok (.ireturn, 1) := by decide +kernel
theorem dX9_count_21 : decode cX9_count 21 = .ok (.iload_n 1, 1) := by decide +kernel
theorem dX9_count_22 : decode cX9_count 22 = .ok (.tableswitch 95 0 8 #[50, 55, 60, 65, 70, 75, 80, 85, 90], 50) := by decide +kernel
theorem dX9_count_72 : decode cX9_count 72 = .ok (.aload_n 0, 1) := by decide +kernel
theorem dX9_count_73 : decode cX9_count 73 = .ok (.getfield 43, 3) := by decide +kernel
theorem dX9_count_76 : decode cX9_count 76 = .ok (.ireturn, 1) := by decide +kernel
theorem dX9_count_77 : decode cX9_count 77 = .ok (.aload_n 0, 1) := by decide +kernel
theorem dX9_count_78 : decode cX9_count 78 = .ok (.invokevirtual 100, 3) := by decide +kernel
theorem dX9_count_81 : decode cX9_count 81 = .ok (.ireturn, 1) := by decide +kernel
theorem dX9_count_82 : decode cX9_count 82 = .ok (.aload_n 0, 1) := by decide +kernel
theorem dX9_count_83 : decode cX9_count 83 = .ok (.getfield 86, 3) := by decide +kernel
theorem dX9_count_86 : decode cX9_count 86 = .ok (.ireturn, 1) := by decide +kernel
theorem dX9_count_87 : decode cX9_count 87 = .ok (.aload_n 0, 1) := by decide +kernel
theorem dX9_count_88 : decode cX9_count 88 = .ok (.invokevirtual 218, 3) := by decide +kernel
theorem dX9_count_91 : decode cX9_count 91 = .ok (.ireturn, 1) := by decide +kernel
theorem dX9_count_92 : decode cX9_count 92 = .ok (.aload_n 0, 1) := by decide +kernel
theorem dX9_count_93 : decode cX9_count 93 = .ok (.getfield 184, 3) := by decide +kernel
theorem dX9_count_96 : decode cX9_count 96 = .ok (.ireturn, 1) := by decide +kernel
theorem dX9_count_97 : decode cX9_count 97 = .ok (.aload_n 0, 1) := by decide +kernel
theorem dX9_count_98 : decode cX9_count 98 = .ok (.getfield 187, 3) := by decide +kernel
theorem dX9_count_101 : decode cX9_count 101 = .ok (.ireturn, 1) := by decide +kernel
theorem dX9_count_102 : decode cX9_count 102 = .ok (.aload_n 0, 1) := by decide +kernel
theorem dX9_count_103 : decode cX9_count 103 = .ok (.getfield 275, 3) := by decide +kernel
theorem dX9_count_106 : decode cX9_count 106 = .ok (.ireturn, 1) := by decide +kernel
theorem dX9_count_107 : decode cX9_count 107 = .ok (.aload_n 0, 1) := by decide +kernel
theorem dX9_count_108 : decode cX9_count 108 = .ok (.getfield 278, 3) := by decide +kernel
theorem dX9_count_111 : decode cX9_count 111 = .ok (.ireturn, 1) := by decide +kernel
theorem dX9_count_112 : decode cX9_count 112 = .ok (.aload_n 0, 1) := by decide +kernel
theorem dX9_count_113 : decode cX9_count 113 = .ok (.getfield 139, 3) := by decide +kernel
theorem dX9_count_116 : decode cX9_count 116 = .ok (.ireturn, 1) := by decide +kernel
theorem dX9_count_117 : decode cX9_count 117 = .ok (.bipush (-9), 2) := by decide +kernel
theorem dX9_count_119 : decode cX9_count 119 = .ok (.ireturn, 1) := by decide +kernel
theorem dJ6_bitCount_0f7a4_0 : decode cJ6_bitCount_0f7a4 0 = .ok (.iload_n 0, 1) := by decide +kernel
theorem dJ6_bitCount_0f7a4_1 : decode cJ6_bitCount_0f7a4 1 = .ok (.iload_n 0, 1) := by decide +kernel
theorem dJ6_bitCount_0f7a4_2 : decode cJ6_bitCount_0f7a4 2 = .ok (.iconst 1, 1) := by decide +kernel
theorem dJ6_bitCount_0f7a4_3 : decode cJ6_bitCount_0f7a4 3 = .ok (.iushr, 1) := by decide +kernel
theorem dJ6_bitCount_0f7a4_4 : decode cJ6_bitCount_0f7a4 4 = .ok (.ldc_w 265, 3) := by decide +kernel
theorem dJ6_bitCount_0f7a4_7 : decode cJ6_bitCount_0f7a4 7 = .ok (.iand, 1) := by decide +kernel
theorem dJ6_bitCount_0f7a4_8 : decode cJ6_bitCount_0f7a4 8 = .ok (.isub, 1) := by decide +kernel
theorem dJ6_bitCount_0f7a4_9 : decode cJ6_bitCount_0f7a4 9 = .ok (.istore_n 0, 1) := by decide +kernel
theorem dJ6_bitCount_0f7a4_10 : decode cJ6_bitCount_0f7a4 10 = .ok (.iload_n 0, 1) := by decide +kernel
theorem dJ6_bitCount_0f7a4_11 : decode cJ6_bitCount_0f7a4 11 = .ok (.ldc_w 266, 3) := by decide +kernel
theorem dJ6_bitCount_0f7a4_14 : decode cJ6_bitCount_0f7a4 14 = .ok (.iand, 1) := by decide +kernel
theorem dJ6_bitCount_0f7a4_15 : decode cJ6_bitCount_0f7a4 15 = .ok (.iload_n 0, 1) := by decide +kernel
theorem dJ6_bitCount_0f7a4_16 : decode cJ6_bitCount_0f7a4 16 = .ok (.iconst 2, 1) := by decide +kernel
theorem dJ6_bitCount_0f7a4_17 : decode cJ6_bitCount_0f7a4 17 = .ok (.iushr, 1) := by decide +kernel
theorem dJ6_bitCount_0f7a4_18 : decode cJ6_bitCount_0f7a4 18 = .ok (.ldc_w 266, 3) := by decide +kernel
theorem dJ6_bitCount_0f7a4_21 : decode cJ6_bitCount_0f7a4 21 = .ok (.iand, 1) := by decide +kernel
theorem dJ6_bitCount_0f7a4_22 : decode cJ6_bitCount_0f7a4 22 = .ok (.iadd, 1) := by decide +kernel
theorem dJ6_bitCount_0f7a4_23 : decode cJ6_bitCount_0f7a4 23 = .ok (.istore_n 0, 1) := by decide +kernel
theorem dJ6_bitCount_0f7a4_24 : decode cJ6_bitCount_0f7a4 24 = .ok (.iload_n 0, 1) := by decide +kernel
theorem dJ6_bitCount_0f7a4_25 : decode cJ6_bitCount_0f7a4 25 = .ok (.iload_n 0, 1) := by decide +kernel
theorem dJ6_bitCount_0f7a4_26 : decode cJ6_bitCount_0f7a4 26 = .ok (.iconst 4, 1) := by decide +kernel
theorem dJ6_bitCount_0f7a4_27 : decode cJ6_bitCount_0f7a4 27 = .ok (.iushr, 1) := by decide +kernel
theorem dJ6_bitCount_0f7a4_28 : decode cJ6_bitCount_0f7a4 28 = .ok (.iadd, 1) := by decide +kernel
theorem dJ6_bitCount_0f7a4_29 : decode cJ6_bitCount_0f7a4 29 = .ok (.ldc_w 267, 3) := by decide +kernel
theorem dJ6_bitCount_0f7a4_32 : decode cJ6_bitCount_0f7a4 32 = .ok (.iand, 1) := by decide +kernel
theorem dJ6_bitCount_0f7a4_33 : decode cJ6_bitCount_0f7a4 33 = .ok (.istore_n 0, 1) := by decide +kernel
theorem dJ6_bitCount_0f7a4_34 : decode cJ6_bitCount_0f7a4 34 = .ok (.iload_n 0, 1) := by decide +kernel
theorem dJ6_bitCount_0f7a4_35 : decode cJ6_bitCount_0f7a4 35 = .ok (.iload_n 0, 1) := by decide +kernel
theorem dJ6_bitCount_0f7a4_36 : decode cJ6_bitCount_0f7a4 36 = .ok (.bipush 8, 2) := by decide +kernel
theorem dJ6_bitCount_0f7a4_38 : decode cJ6_bitCount_0f7a4 38 = .ok (.iushr, 1) := by decide +kernel
theorem dJ6_bitCount_0f7a4_39 : decode cJ6_bitCount_0f7a4 39 = .ok (.iadd, 1) := by decide +kernel
theorem dJ6_bitCount_0f7a4_40 : decode cJ6_bitCount_0f7a4 40 = .ok (.istore_n 0, 1) := by decide +kernel
theorem dJ6_bitCount_0f7a4_41 : decode cJ6_bitCount_0f7a4 41 = .ok (.iload_n 0, 1) := by decide +kernel
theorem dJ6_bitCount_0f7a4_42 : decode cJ6_bitCount_0f7a4 42 = .ok (.iload_n 0, 1) := by decide +kernel
theorem dJ6_bitCount_0f7a4_43 : decode cJ6_bitCount_0f7a4 43 = .ok (.bipush 16, 2) := by decide +kernel
theorem dJ6_bitCount_0f7a4_45 : decode cJ6_bitCount_0f7a4 45 = .ok (.iushr, 1) := by decide +kernel
theorem dJ6_bitCount_0f7a4_46 : decode cJ6_bitCount_0f7a4 46 = .ok (.iadd, 1) := by decide +kernel
theorem dJ6_bitCount_0f7a4_47 : decode cJ6_bitCount_0f7a4 47 = .ok (.istore_n 0, 1) := by decide +kernel
theorem dJ6_bitCount_0f7a4_48 : decode cJ6_bitCount_0f7a4 48 = .ok (.iload_n 0, 1) := by decide +kernel
theorem dJ6_bitCount_0f7a4_49 : decode cJ6_bitCount_0f7a4 49 = .ok (.bipush 63, 2) := by decide +kernel
theorem dJ6_bitCount_0f7a4_51 : decode cJ6_bitCount_0f7a4 51 = .ok (.iand, 1) := by decide +kernel
theorem dJ6_bitCount_0f7a4_52 : decode cJ6_bitCount_0f7a4 52 = .ok (.ireturn, 1) := by decide +kernel
theorem dJ9_max_7cf53_0 : decode cJ9_max_7cf53 0 = .ok (.iload_n 0, 1) := by decide +kernel
theorem dJ9_max_7cf53_1 : decode cJ9_max_7cf53 1 = .ok (.iload_n 1, 1) := by decide +kernel
theorem dJ9_max_7cf53_2 : decode cJ9_max_7cf53 2 = .ok (.if_icmp .lt 7, 3) := by decide +kernel
theorem dJ9_max_7cf53_5 : decode cJ9_max_7cf53 5 = .ok (.iload_n 0, 1) := by decide +kernel
theorem dJ9_max_7cf53_6 : decode cJ9_max_7cf53 6 = .ok (.goto 4, 3) := by decide +kernel
theorem dJ9_max_7cf53_9 : decode cJ9_max_7cf53 9 = .ok (.iload_n 1, 1) := by decide +kernel
theorem dJ9_max_7cf53_10 : decode cJ9_max_7cf53 10 = .ok (.ireturn, 1) := by decide +kernel
theorem dJ9_min_7cf53_0 : decode cJ9_min_7cf53 0 = .ok (.iload_n 0, 1) := by decide +kernel
theorem dJ9_min_7cf53_1 : decode cJ9_min_7cf53 1 = .ok (.iload_n 1, 1) := by decide +kernel
theorem dJ9_min_7cf53_2 : decode cJ9_min_7cf53 2 = .ok (.if_icmp .gt 7, 3) := by decide +kernel
theorem dJ9_min_7cf53_5 : decode cJ9_min_7cf53 5 = .ok (.iload_n 0, 1) := by decide +kernel
theorem dJ9_min_7cf53_6 : decode cJ9_min_7cf53 6 = .ok (.goto 4, 3) := by decide +kernel
theorem dJ9_min_7cf53_9 : decode cJ9_min_7cf53 9 = .ok (.iload_n 1, 1) := by decide +kernel
theorem dJ9_min_7cf53_10 : decode cJ9_min_7cf53 10 = .ok (.ireturn, 1) := by decide +kernel
theorem dJ0_length_8abf5_0 : decode cJ0_length_8abf5 0 = .ok (.aload_n 0, 1) := by decide +kernel
theorem dJ0_length_8abf5_1 : decode cJ0_length_8abf5 1 = .ok (.getfield 9, 3) := by decide +kernel
theorem dJ0_length_8abf5_4 : decode cJ0_length_8abf5 4 = .ok (.arraylength, 1) := by decide +kernel
theorem dJ0_length_8abf5_5 : decode cJ0_length_8abf5 5 = .ok (.aload_n 0, 1) := by decide +kernel
theorem dJ0_length_8abf5_6 : decode cJ0_length_8abf5 6 = .ok (.invokevirtual 335, 3) := by decide +kernel
theorem dJ0_length_8abf5_9 : decode cJ0_length_8abf5 9 = .ok (.ishr, 1) := by decide +kernel
theorem dJ0_length_8abf5_10 : decode cJ0_length_8abf5 10 = .ok (.ireturn, 1) := by decide +kernel
theorem dJ0_isEmpty_aae02_0 : decode cJ0_isEmpty_aae02 0 = .ok (.aload_n 0, 1) := by decide +kernel
theorem dJ0_isEmpty_aae02_1 : decode cJ0_isEmpty_aae02 1 = .ok (.getfield 9, 3) := by decide +kernel
theorem dJ0_isEmpty_aae02_4 : decode cJ0_isEmpty_aae02 4 = .ok (.arraylength, 1) := by decide +kernel
theorem dJ0_isEmpty_aae02_5 : decode cJ0_isEmpty_aae02 5 = .ok (.ifCond .ne 7, 3) := by decide +kernel
theorem dJ0_isEmpty_aae02_8 : decode cJ0_isEmpty_aae02 8 = .ok (.iconst 1, 1) := by decide +kernel
theorem dJ0_isEmpty_aae02_9 : decode cJ0_isEmpty_aae02 9 = .ok (.goto 4, 3) := by decide +kernel
theorem dJ0_isEmpty_aae02_12 : decode cJ0_isEmpty_aae02 12 = .ok (.iconst 0, 1) := by decide +kernel
theorem dJ0_isEmpty_aae02_13 : decode cJ0_isEmpty_aae02 13 = .ok (.ireturn, 1) := by decide +kernel
theorem dJ0_charAt_5068e_0 : decode cJ0_charAt_5068e 0 = .ok (.aload_n 0, 1) := by decide +kernel
theorem dJ0_charAt_5068e_1 : decode cJ0_charAt_5068e 1 = .ok (.invokevirtual 492, 3) := by decide +kernel
theorem dJ0_charAt_5068e_4 : decode cJ0_charAt_5068e 4 = .ok (.ifCond .eq 12, 3) := by decide +kernel
theorem dJ0_charAt_5068e_7 : decode cJ0_charAt_5068e 7 = .ok (.aload_n 0, 1) := by decide +kernel
theorem dJ0_charAt_5068e_8 : decode cJ0_charAt_5068e 8 = .ok (.getfield 9, 3) := by decide +kernel
theorem dJ0_charAt_5068e_11 : decode cJ0_charAt_5068e 11 = .ok (.iload_n 1, 1) := by decide +kernel
theorem dJ0_charAt_5068e_12 : decode cJ0_charAt_5068e 12 = .ok (.invokestatic 495, 3) := by decide +kernel
theorem dJ0_charAt_5068e_15 : decode cJ0_charAt_5068e 15 = .ok (.ireturn, 1) := by decide +kernel
theorem dJ0_charAt_5068e_16 : decode cJ0_charAt_5068e 16 = .ok (.aload_n 0, 1) := by decide +kernel
theorem dJ0_charAt_5068e_17 : decode cJ0_charAt_5068e 17 = .ok (.getfield 9, 3) := by decide +kernel
theorem dJ0_charAt_5068e_20 : decode cJ0_charAt_5068e 20 = .ok (.iload_n 1, 1) := by decide +kernel
theorem dJ0_charAt_5068e_21 : decode cJ0_charAt_5068e 21 = .ok (.invokestatic 498, 3) := by decide +kernel
theorem dJ0_charAt_5068e_24 : decode cJ0_charAt_5068e 24 = .ok (.ireturn, 1) := by decide +kernel
theorem dJ0_coder_7d493_0 : decode cJ0_coder_7d493 0 = .ok (.getstatic 38, 3) := by decide +kernel
theorem dJ0_coder_7d493_3 : decode cJ0_coder_7d493 3 = .ok (.ifCond .eq 10, 3) := by decide +kernel
theorem dJ0_coder_7d493_6 : decode cJ0_coder_7d493 6 = .ok (.aload_n 0, 1) := by decide +kernel
theorem dJ0_coder_7d493_7 : decode cJ0_coder_7d493 7 = .ok (.getfield 15, 3) := by decide +kernel
theorem dJ0_coder_7d493_10 : decode cJ0_coder_7d493 10 = .ok (.goto 4, 3) := by decide +kernel
theorem dJ0_coder_7d493_13 : decode cJ0_coder_7d493 13 = .ok (.iconst 1, 1) := by decide +kernel
theorem dJ0_coder_7d493_14 : decode cJ0_coder_7d493 14 = .ok (.ireturn, 1) := by decide +kernel
theorem dJ0_isLatin1_aae02_0 : decode cJ0_isLatin1_aae02 0 = .ok (.getstatic 38, 3) := by decide +kernel
theorem dJ0_isLatin1_aae02_3 : decode cJ0_isLatin1_aae02 3 = .ok (.ifCond .eq 14, 3) := by decide +kernel
theorem dJ0_isLatin1_aae02_6 : decode cJ0_isLatin1_aae02 6 = .ok (.aload_n 0, 1) := by decide +kernel
theorem dJ0_isLatin1_aae02_7 : decode cJ0_isLatin1_aae02 7 = .ok (.getfield 15, 3) := by decide +kernel
theorem dJ0_isLatin1_aae02_10 : decode cJ0_isLatin1_aae02 10 = .ok (.ifCond .ne 7, 3) := by decide +kernel
theorem dJ0_isLatin1_aae02_13 : decode cJ0_isLatin1_aae02 13 = .ok (.iconst 1, 1) := by decide +kernel
theorem dJ0_isLatin1_aae02_14 : decode cJ0_isLatin1_aae02 14 = .ok (.goto 4, 3) := by decide +kernel
theorem dJ0_isLatin1_aae02_17 : decode cJ0_isLatin1_aae02 17 = .ok (.iconst 0, 1) := by decide +kernel
theorem dJ0_isLatin1_aae02_18 : decode cJ0_isLatin1_aae02 18 = .ok (.ireturn, 1) := by decide +kernel
theorem dJ0_checkIndex_df160_0 : decode cJ0_checkIndex_df160 0 = .ok (.iload_n 0, 1) := by decide +kernel
theorem dJ0_checkIndex_df160_1 : decode cJ0_checkIndex_df160 1 = .ok (.iload_n 1, 1) := by decide +kernel
theorem dJ0_checkIndex_df160_2 : decode cJ0_checkIndex_df160 2 = .ok (.getstatic 1053, 3) := by decide +kernel
theorem dJ0_checkIndex_df160_5 : decode cJ0_checkIndex_df160 5 = .ok (.invokestatic 1059, 3) := by decide +kernel
theorem dJ0_checkIndex_df160_8 : decode cJ0_checkIndex_df160 8 = .ok (.pop, 1) := by decide +kernel
theorem dJ0_checkIndex_df160_9 : decode cJ0_checkIndex_df160 9 = .ok (.return_, 1) := by decide +kernel
theorem dJ1_charAt_3b067_0 : decode cJ1_charAt_3b067 0 = .ok (.iload_n 1, 1) := by decide +kernel
theorem dJ1_charAt_3b067_1 : decode cJ1_charAt_3b067 1 = .ok (.aload_n 0, 1) := by decide +kernel
theorem dJ1_charAt_3b067_2 : decode cJ1_charAt_3b067 2 = .ok (.arraylength, 1) := by decide +kernel
theorem dJ1_charAt_3b067_3 : decode cJ1_charAt_3b067 3 = .ok (.invokestatic 9, 3) := by decide +kernel
theorem dJ1_charAt_3b067_6 : decode cJ1_charAt_3b067 6 = .ok (.aload_n 0, 1) := by decide +kernel
theorem dJ1_charAt_3b067_7 : decode cJ1_charAt_3b067 7 = .ok (.iload_n 1, 1) := by decide +kernel
theorem dJ1_charAt_3b067_8 : decode cJ1_charAt_3b067 8 = .ok (.baload, 1) := by decide +kernel
theorem dJ1_charAt_3b067_9 : decode cJ1_charAt_3b067 9 = .ok (.sipush 255, 3) := by decide +kernel
theorem dJ1_charAt_3b067_12 : decode cJ1_charAt_3b067 12 = .ok (.iand, 1) := by decide +kernel
theorem dJ1_charAt_3b067_13 : decode cJ1_charAt_3b067 13 = .ok (.i2c, 1) := by decide +kernel
theorem dJ1_charAt_3b067_14 : decode cJ1_charAt_3b067 14 = .ok (.ireturn, 1) := by decide +kernel
theorem dJ2_getChar_3b067_0 : decode cJ2_getChar_3b067 0 = .ok (.getstatic 44, 3) := by decide +kernel
theorem dJ2_getChar_3b067_3 : decode cJ2_getChar_3b067 3 = .ok (.ifCond .ne 25, 3) := by decide +kernel
theorem dJ2_getChar_3b067_6 : decode cJ2_getChar_3b067 6 = .ok (.iload_n 1, 1) := by decide +kernel
theorem dJ2_getChar_3b067_7 : decode cJ2_getChar_3b067 7 = .ok (.ifCond .lt 11, 3) := by decide +kernel
theorem dJ2_getChar_3b067_10 : decode cJ2_getChar_3b067 10 = .ok (.iload_n 1, 1) := by decide +kernel
theorem dJ2_getChar_3b067_11 : decode cJ2_getChar_3b067 11 = .ok (.aload_n 0, 1) := by decide +kernel
theorem dJ2_getChar_3b067_12 : decode cJ2_getChar_3b067 12 = .ok (.invokestatic 48, 3) := by decide +kernel
theorem dJ2_getChar_3b067_15 : decode cJ2_getChar_3b067 15 = .ok (.if_icmp .lt 13, 3) := by decide +kernel
theorem dJ2_getChar_3b067_18 : decode cJ2_getChar_3b067 18 = .ok (.new 52, 3) := by decide +kernel
theorem dJ2_getChar_3b067_21 : decode cJ2_getChar_3b067 21 = .ok (.dup, 1) := by decide +kernel
theorem dJ2_getChar_3b067_22 : decode cJ2_getChar_3b067 22 = .ok (.ldc 54, 2) := by decide +kernel
theorem dJ2_getChar_3b067_24 : decode cJ2_getChar_3b067 24 = .ok (.invokespecial 56, 3) := by decide +kernel
theorem dJ2_getChar_3b067_27 : decode cJ2_getChar_3b067 27 = .ok (.athrow, 1) := by decide +kernel
theorem dJ2_getChar_3b067_28 : decode cJ2_getChar_3b067 28 = .ok (.iload_n 1, 1) := by decide +kernel
theorem dJ2_getChar_3b067_29 : decode cJ2_getChar_3b067 29 = .ok (.iconst 1, 1) := by decide +kernel
theorem dJ2_getChar_3b067_30 : decode cJ2_getChar_3b067 30 = .ok (.ishl, 1) := by decide +kernel
theorem dJ2_getChar_3b067_31 : decode cJ2_getChar_3b067 31 = .ok (.istore_n 1, 1) := by decide +kernel
theorem dJ2_getChar_3b067_32 : decode cJ2_getChar_3b067 32 = .ok (.aload_n 0, 1) := by decide +kernel
theorem dJ2_getChar_3b067_33 : decode cJ2_getChar_3b067 33 = .ok (.iload_n 1, 1) := by decide +kernel
theorem dJ2_getChar_3b067_34 : decode cJ2_getChar_3b067 34 = .ok (.iinc 1 1, 3) := by decide +kernel
theorem dJ2_getChar_3b067_37 : decode cJ2_getChar_3b067 37 = .ok (.baload, 1) := by decide +kernel
theorem dJ2_getChar_3b067_38 : decode cJ2_getChar_3b067 38 = .ok (.sipush 255, 3) := by decide +kernel
theorem dJ2_getChar_3b067_41 : decode cJ2_getChar_3b067 41 = .ok (.iand, 1) := by decide +kernel
theorem dJ2_getChar_3b067_42 : decode cJ2_getChar_3b067 42 = .ok (.getstatic 59, 3) := by decide +kernel
theorem dJ2_getChar_3b067_45 : decode cJ2_getChar_3b067 45 = .ok (.ishl, 1) := by decide +kernel
theorem dJ2_getChar_3b067_46 : decode cJ2_getChar_3b067 46 = .ok (.aload_n 0, 1) := by decide +kernel
theorem dJ2_getChar_3b067_47 : decode cJ2_getChar_3b067 47 = .ok (.iload_n 1, 1) := by decide +kernel
theorem dJ2_getChar_3b067_48 : decode cJ2_getChar_3b067 48 = .ok (.baload, 1) := by decide +kernel
theorem dJ2_getChar_3b067_49 : decode cJ2_getChar_3b067 49 = .ok (.sipush 255, 3) := by decide +kernel
theorem dJ2_getChar_3b067_52 : decode cJ2_getChar_3b067 52 = .ok (.iand, 1) := by decide +kernel
theorem dJ2_getChar_3b067_53 : decode cJ2_getChar_3b067 53 = .ok (.getstatic 63, 3) := by decide +kernel
theorem dJ2_getChar_3b067_56 : decode cJ2_getChar_3b067 56 = .ok (.ishl, 1) := by decide +kernel
theorem dJ2_getChar_3b067_57 : decode cJ2_getChar_3b067 57 = .ok (.ior, 1) := by decide +kernel
theorem dJ2_getChar_3b067_58 : decode cJ2_getChar_3b067 58 = .ok (.i2c, 1) := by decide +kernel
theorem dJ2_getChar_3b067_59 : decode cJ2_getChar_3b067 59 = .ok (.ireturn, 1) := by decide +kernel
theorem dJ2_length_9d52b_0 : decode cJ2_length_9d52b 0 = .ok (.aload_n 0, 1) := by decide +kernel
theorem dJ2_length_9d52b_1 : decode cJ2_length_9d52b 1 = .ok (.arraylength, 1) := by decide +kernel
theorem dJ2_length_9d52b_2 : decode cJ2_length_9d52b 2 = .ok (.iconst 1, 1) := by decide +kernel
theorem dJ2_length_9d52b_3 : decode cJ2_length_9d52b 3 = .ok (.ishr, 1) := by decide +kernel
theorem dJ2_length_9d52b_4 : decode cJ2_length_9d52b 4 = .ok (.ireturn, 1) := by decide +kernel
theorem dJ2_charAt_3b067_0 : decode cJ2_charAt_3b067 0 = .ok (.iload_n 1, 1) := by decide +kernel
theorem dJ2_charAt_3b067_1 : decode cJ2_charAt_3b067 1 = .ok (.aload_n 0, 1) := by decide +kernel
theorem dJ2_charAt_3b067_2 : decode cJ2_charAt_3b067 2 = .ok (.invokestatic 67, 3) := by decide +kernel
theorem dJ2_charAt_3b067_5 : decode cJ2_charAt_3b067 5 = .ok (.aload_n 0, 1) := by decide +kernel
theorem dJ2_charAt_3b067_6 : decode cJ2_charAt_3b067 6 = .ok (.iload_n 1, 1) := by decide +kernel
theorem dJ2_charAt_3b067_7 : decode cJ2_charAt_3b067 7 = .ok (.invokestatic 71, 3) := by decide +kernel
theorem dJ2_charAt_3b067_10 : decode cJ2_charAt_3b067 10 = .ok (.ireturn, 1) := by decide +kernel
theorem dJ2_checkIndex_2214a_0 : decode cJ2_checkIndex_2214a 0 = .ok (.iload_n 0, 1) := by decide +kernel
theorem dJ2_checkIndex_2214a_1 : decode cJ2_checkIndex_2214a 1 = .ok (.aload_n 1, 1) := by decide +kernel
theorem dJ2_checkIndex_2214a_2 : decode cJ2_checkIndex_2214a 2 = .ok (.invokestatic 48, 3) := by decide +kernel
theorem dJ2_checkIndex_2214a_5 : decode cJ2_checkIndex_2214a 5 = .ok (.invokestatic 414, 3) := by decide +kernel
theorem dJ2_checkIndex_2214a_8 : decode cJ2_checkIndex_2214a 8 = .ok (.return_, 1) := by decide +kernel
theorem dJ3_checkIndex_8e157_0 : decode cJ3_checkIndex_8e157 0 = .ok (.iload_n 0, 1) := by decide +kernel
theorem dJ3_checkIndex_8e157_1 : decode cJ3_checkIndex_8e157 1 = .ok (.ifCond .lt 8, 3) := by decide +kernel
theorem dJ3_checkIndex_8e157_4 : decode cJ3_checkIndex_8e157 4 = .ok (.iload_n 0, 1) := by decide +kernel
theorem dJ3_checkIndex_8e157_5 : decode cJ3_checkIndex_8e157 5 = .ok (.iload_n 1, 1) := by decide +kernel
theorem dJ3_checkIndex_8e157_6 : decode cJ3_checkIndex_8e157 6 = .ok (.if_icmp .lt 10, 3) := by decide +kernel
theorem dJ3_checkIndex_8e157_9 : decode cJ3_checkIndex_8e157 9 = .ok (.aload_n 2, 1) := by decide +kernel
theorem dJ3_checkIndex_8e157_10 : decode cJ3_checkIndex_8e157 10 = .ok (.iload_n 0, 1) := by decide +kernel
theorem dJ3_checkIndex_8e157_11 : decode cJ3_checkIndex_8e157 11 = .ok (.iload_n 1, 1) := by decide +kernel
theorem dJ3_checkIndex_8e157_12 : decode cJ3_checkIndex_8e157 12 = .ok (.invokestatic 95, 3) := by decide +kernel
theorem dJ3_checkIndex_8e157_15 : decode cJ3_checkIndex_8e157 15 = .ok (.athrow, 1) := by decide +kernel
theorem dJ3_checkIndex_8e157_16 : decode cJ3_checkIndex_8e157 16 = .ok (.iload_n 0, 1) := by decide +kernel
theorem dJ3_checkIndex_8e157_17 : decode cJ3_checkIndex_8e157 17 = .ok (.ireturn, 1) := by decide +kernel
theorem dL_law_0 : decode cL_law 0 = .ok (.new 7, 3) := by decide +kernel
theorem dL_law_3 : decode cL_law 3 = .ok (.dup, 1) := by decide +kernel
theorem dL_law_4 : decode cL_law 4 = .ok (.invokespecial 9, 3) := by decide +kernel
theorem dL_law_7 : decode cL_law 7 = .ok (.astore_n 1, 1) := by decide +kernel
theorem dL_law_8 : decode cL_law 8 = .ok (.new 10, 3) := by decide +kernel
theorem dL_law_11 : decode cL_law 11 = .ok (.dup, 1) := by decide +kernel
theorem dL_law_12 : decode cL_law 12 = .ok (.invokespecial 12, 3) := by decide +kernel
theorem dL_law_15 : decode cL_law 15 = .ok (.astore_n 2, 1) := by decide +kernel
theorem dL_law_16 : decode cL_law 16 = .ok (.iconst 0, 1) := by decide +kernel
theorem dL_law_17 : decode cL_law 17 = .ok (.istore_n 3, 1) := by decide +kernel
theorem dL_law_18 : decode cL_law 18 = .ok (.iload_n 3, 1) := by decide +kernel
theorem dL_law_19 : decode cL_law 19 = .ok (.aload_n 0, 1) := by decide +kernel
theorem dL_law_20 : decode cL_law 20 = .ok (.arraylength, 1) := by decide +kernel
theorem dL_law_21 : decode cL_law 21 = .ok (.iconst 5, 1) := by decide +kernel
theorem dL_law_22 : decode cL_law 22 = .ok (.isub, 1) := by decide +kernel
theorem dL_law_23 : decode cL_law 23 = .ok (.if_icmp .gt 1035, 3) := by decide +kernel
theorem dL_law_26 : decode cL_law 26 = .ok (.aload_n 0, 1) := by decide +kernel
theorem dL_law_27 : decode cL_law 27 = .ok (.iload_n 3, 1) := by decide +kernel
theorem dL_law_28 : decode cL_law 28 = .ok (.iaload, 1) := by decide +kernel
theorem dL_law_29 : decode cL_law 29 = .ok (.bipush 31, 2) := by decide +kernel
theorem dL_law_31 : decode cL_law 31 = .ok (.iand, 1) := by decide +kernel
theorem dL_law_32 : decode cL_law 32 = .ok (.tableswitch 1020 0 31 #[144, 207, 220, 243, 286, 329, 362, 385, 408, 441, 464, 497, 520, 533, 556, 579, 612, 635, 668, 701, 724, 767, 800, 813, 836, 849, 872, 925, 948, 971, 984, 997], 144) := by decide +kernel
theorem dL_law_176 : decode cL_law 176 = .ok (.aload_n 1, 1) := by decide +kernel
theorem dL_law_177 : decode cL_law 177 = .ok (.aload_n 0, 1) := by decide +kernel
theorem dL_law_178 : decode cL_law 178 = .ok (.iload_n 3, 1) := by decide +kernel
theorem dL_law_179 : decode cL_law 179 = .ok (.iconst 1, 1) := by decide +kernel
theorem dL_law_180 : decode cL_law 180 = .ok (.iadd, 1) := by decide +kernel
theorem dL_law_181 : decode cL_law 181 = .ok (.iaload, 1) := by decide +kernel
theorem dL_law_182 : decode cL_law 182 = .ok (.aload_n 0, 1) := by decide +kernel
theorem dL_law_183 : decode cL_law 183 = .ok (.iload_n 3, 1) := by decide +kernel
theorem dL_law_184 : decode cL_law 184 = .ok (.iconst 2, 1) := by decide +kernel
theorem dL_law_185 : decode cL_law 185 = .ok (.iadd, 1) := by decide +kernel
theorem dL_law_186 : decode cL_law 186 = .ok (.iaload, 1) := by decide +kernel
theorem dL_law_187 : decode cL_law 187 = .ok (.i2l, 1) := by decide +kernel
theorem dL_law_188 : decode cL_law 188 = .ok (.bipush 32, 2) := by decide +kernel
theorem dL_law_190 : decode cL_law 190 = .ok (.lshl, 1) := by decide +kernel
theorem dL_law_191 : decode cL_law 191 = .ok (.aload_n 0, 1) := by decide +kernel
theorem dL_law_192 : decode cL_law 192 = .ok (.iload_n 3, 1) := by decide +kernel
theorem dL_law_193 : decode cL_law 193 = .ok (.iconst 3, 1) := by decide +kernel
theorem dL_law_194 : decode cL_law 194 = .ok (.iadd, 1) := by decide +kernel
theorem dL_law_195 : decode cL_law 195 = .ok (.iaload, 1) := by decide +kernel
theorem dL_law_196 : decode cL_law 196 = .ok (.i2l, 1) := by decide +kernel
theorem dL_law_197 : decode cL_law 197 = .ok (.ldc2_w 13, 3) := by decide +kernel
theorem dL_law_200 : decode cL_law 200 = .ok (.land, 1) := by decide +kernel
theorem dL_law_201 : decode cL_law 201 = .ok (.lor, 1) := by decide +kernel
theorem dL_law_202 : decode cL_law 202 = .ok (.invokevirtual 15, 3) := by decide +kernel
theorem dL_law_205 : decode cL_law 205 = .ok (.pop, 1) := by decide +kernel
theorem dL_law_206 : decode cL_law 206 = .ok (.aload_n 2, 1) := by decide +kernel
theorem dL_law_207 : decode cL_law 207 = .ok (.aload_n 0, 1) := by decide +kernel
theorem dL_law_208 : decode cL_law 208 = .ok (.iload_n 3, 1) := by decide +kernel
theorem dL_law_209 : decode cL_law 209 = .ok (.iconst 1, 1) := by decide +kernel
theorem dL_law_210 : decode cL_law 210 = .ok (.iadd, 1) := by decide +kernel
theorem dL_law_211 : decode cL_law 211 = .ok (.iaload, 1) := by decide +kernel
theorem dL_law_212 : decode cL_law 212 = .ok (.aload_n 0, 1) := by decide +kernel
theorem dL_law_213 : decode cL_law 213 = .ok (.iload_n 3, 1) := by decide +kernel
theorem dL_law_214 : decode cL_law 214 = .ok (.iconst 2, 1) := by decide +kernel
theorem dL_law_215 : decode cL_law 215 = .ok (.iadd, 1) := by decide +kernel
theorem dL_law_216 : decode cL_law 216 = .ok (.iaload, 1) := by decide +kernel
theorem dL_law_217 : decode cL_law 217 = .ok (.i2l, 1) := by decide +kernel
theorem dL_law_218 : decode cL_law 218 = .ok (.bipush 32, 2) := by decide +kernel
theorem dL_law_220 : decode cL_law 220 = .ok (.lshl, 1) := by decide +kernel
theorem dL_law_221 : decode cL_law 221 = .ok (.aload_n 0, 1) := by decide +kernel
theorem dL_law_222 : decode cL_law 222 = .ok (.iload_n 3, 1) := by decide +kernel
theorem dL_law_223 : decode cL_law 223 = .ok (.iconst 3, 1) := by decide +kernel
theorem dL_law_224 : decode cL_law 224 = .ok (.iadd, 1) := by decide +kernel
theorem dL_law_225 : decode cL_law 225 = .ok (.iaload, 1) := by decide +kernel
theorem dL_law_226 : decode cL_law 226 = .ok (.i2l, 1) := by decide +kernel
theorem dL_law_227 : decode cL_law 227 = .ok (.ldc2_w 13, 3) := by decide +kernel
theorem dL_law_230 : decode cL_law 230 = .ok (.land, 1) := by decide +kernel
theorem dL_law_231 : decode cL_law 231 = .ok (.lor, 1) := by decide +kernel
theorem dL_law_232 : decode cL_law 232 = .ok (.invokevirtual 19, 3) := by decide +kernel
theorem dL_law_235 : decode cL_law 235 = .ok (.pop, 1) := by decide +kernel
theorem dL_law_236 : decode cL_law 236 = .ok (.goto 816, 3) := by decide +kernel
theorem dL_law_239 : decode cL_law 239 = .ok (.aload_n 1, 1) := by decide +kernel
theorem dL_law_240 : decode cL_law 240 = .ok (.invokevirtual 20, 3) := by decide +kernel
theorem dL_law_243 : decode cL_law 243 = .ok (.pop, 1) := by decide +kernel
theorem dL_law_244 : decode cL_law 244 = .ok (.aload_n 2, 1) := by decide +kernel
theorem dL_law_245 : decode cL_law 245 = .ok (.invokevirtual 24, 3) := by decide +kernel
theorem dL_law_248 : decode cL_law 248 = .ok (.pop, 1) := by decide +kernel
theorem dL_law_249 : decode cL_law 249 = .ok (.goto 803, 3) := by decide +kernel
theorem dL_law_252 : decode cL_law 252 = .ok (.aload_n 1, 1) := by decide +kernel
theorem dL_law_253 : decode cL_law 253 = .ok (.aload_n 0, 1) := by decide +kernel
theorem dL_law_254 : decode cL_law 254 = .ok (.iload_n 3, 1) := by decide +kernel
theorem dL_law_255 : decode cL_law 255 = .ok (.iconst 1, 1) := by decide +kernel
theorem dL_law_256 : decode cL_law 256 = .ok (.iadd, 1) := by decide +kernel
theorem dL_law_257 : decode cL_law 257 = .ok (.iaload, 1) := by decide +kernel
theorem dL_law_258 : decode cL_law 258 = .ok (.invokevirtual 25, 3) := by decide +kernel
theorem dL_law_261 : decode cL_law 261 = .ok (.pop, 1) := by decide +kernel
theorem dL_law_262 : decode cL_law 262 = .ok (.aload_n 2, 1) := by decide +kernel
theorem dL_law_263 : decode cL_law 263 = .ok (.aload_n 0, 1) := by decide +kernel
theorem dL_law_264 : decode cL_law 264 = .ok (.iload_n 3, 1) := by decide +kernel
theorem dL_law_265 : decode cL_law 265 = .ok (.iconst 1, 1) := by decide +kernel
theorem dL_law_266 : decode cL_law 266 = .ok (.iadd, 1) := by decide +kernel
theorem dL_law_267 : decode cL_law 267 = .ok (.iaload, 1) := by decide +kernel
theorem dL_law_268 : decode cL_law 268 = .ok (.invokevirtual 29, 3) := by decide +kernel
theorem dL_law_271 : decode cL_law 271 = .ok (.pop, 1) := by decide +kernel
theorem dL_law_272 : decode cL_law 272 = .ok (.goto 780, 3) := by decide +kernel
theorem dL_law_275 : decode cL_law 275 = .ok (.aload_n 1, 1) := by decide +kernel
theorem dL_law_276 : decode cL_law 276 = .ok (.aload_n 0, 1) := by decide +kernel
theorem dL_law_277 : decode cL_law 277 = .ok (.iload_n 3, 1) := by decide +kernel
theorem dL_law_278 : decode cL_law 278 = .ok (.iconst 1, 1) := by decide +kernel
theorem dL_law_279 : decode cL_law 279 = .ok (.iadd, 1) := by decide +kernel
theorem dL_law_280 : decode cL_law 280 = .ok (.iaload, 1) := by decide +kernel
theorem dL_law_281 : decode cL_law 281 = .ok (.aload_n 0, 1) := by decide +kernel
theorem dL_law_282 : decode cL_law 282 = .ok (.iload_n 3, 1) := by decide +kernel
theorem dL_law_283 : decode cL_law 283 = .ok (.iconst 2, 1) := by decide +kernel
theorem dL_law_284 : decode cL_law 284 = .ok (.iadd, 1) := by decide +kernel
theorem dL_law_285 : decode cL_law 285 = .ok (.iaload, 1) := by decide +kernel
theorem dL_law_286 : decode cL_law 286 = .ok (.aload_n 0, 1) := by decide +kernel
theorem dL_law_287 : decode cL_law 287 = .ok (.iload_n 3, 1) := by decide +kernel
theorem dL_law_288 : decode cL_law 288 = .ok (.iconst 3, 1) := by decide +kernel
theorem dL_law_289 : decode cL_law 289 = .ok (.iadd, 1) := by decide +kernel
theorem dL_law_290 : decode cL_law 290 = .ok (.iaload, 1) := by decide +kernel
theorem dL_law_291 : decode cL_law 291 = .ok (.invokevirtual 30, 3) := by decide +kernel
theorem dL_law_294 : decode cL_law 294 = .ok (.pop, 1) := by decide +kernel
theorem dL_law_295 : decode cL_law 295 = .ok (.aload_n 2, 1) := by decide +kernel
theorem dL_law_296 : decode cL_law 296 = .ok (.aload_n 0, 1) := by decide +kernel
theorem dL_law_297 : decode cL_law 297 = .ok (.iload_n 3, 1) := by decide +kernel
theorem dL_law_298 : decode cL_law 298 = .ok (.iconst 1, 1) := by decide +kernel
theorem dL_law_299 : decode cL_law 299 = .ok (.iadd, 1) := by decide +kernel
theorem dL_law_300 : decode cL_law 300 = .ok (.iaload, 1) := by decide +kernel
theorem dL_law_301 : decode cL_law 301 = .ok (.aload_n 0, 1) := by decide +kernel
theorem dL_law_302 : decode cL_law 302 = .ok (.iload_n 3, 1) := by decide +kernel
theorem dL_law_303 : decode cL_law 303 = .ok (.iconst 2, 1) := by decide +kernel
theorem dL_law_304 : decode cL_law 304 = .ok (.iadd, 1) := by decide +kernel
theorem dL_law_305 : decode cL_law 305 = .ok (.iaload, 1) := by decide +kernel
theorem dL_law_306 : decode cL_law 306 = .ok (.aload_n 0, 1) := by decide +kernel
theorem dL_law_307 : decode cL_law 307 = .ok (.iload_n 3, 1) := by decide +kernel
theorem dL_law_308 : decode cL_law 308 = .ok (.iconst 3, 1) := by decide +kernel
theorem dL_law_309 : decode cL_law 309 = .ok (.iadd, 1) := by decide +kernel
theorem dL_law_310 : decode cL_law 310 = .ok (.iaload, 1) := by decide +kernel
theorem dL_law_311 : decode cL_law 311 = .ok (.invokevirtual 34, 3) := by decide +kernel
theorem dL_law_314 : decode cL_law 314 = .ok (.pop, 1) := by decide +kernel
theorem dL_law_315 : decode cL_law 315 = .ok (.goto 737, 3) := by decide +kernel
theorem dL_law_318 : decode cL_law 318 = .ok (.aload_n 1, 1) := by decide +kernel
theorem dL_law_319 : decode cL_law 319 = .ok (.aload_n 0, 1) := by decide +kernel
theorem dL_law_320 : decode cL_law 320 = .ok (.iload_n 3, 1) := by decide +kernel
theorem dL_law_321 : decode cL_law 321 = .ok (.iconst 1, 1) := by decide +kernel
theorem dL_law_322 : decode cL_law 322 = .ok (.iadd, 1) := by decide +kernel
theorem dL_law_323 : decode cL_law 323 = .ok (.iaload, 1) := by decide +kernel
theorem dL_law_324 : decode cL_law 324 = .ok (.aload_n 0, 1) := by decide +kernel
theorem dL_law_325 : decode cL_law 325 = .ok (.iload_n 3, 1) := by decide +kernel
theorem dL_law_326 : decode cL_law 326 = .ok (.iconst 2, 1) := by decide +kernel
theorem dL_law_327 : decode cL_law 327 = .ok (.iadd, 1) := by decide +kernel
theorem dL_law_328 : decode cL_law 328 = .ok (.iaload, 1) := by decide +kernel
theorem dL_law_329 : decode cL_law 329 = .ok (.aload_n 0, 1) := by decide +kernel
theorem dL_law_330 : decode cL_law 330 = .ok (.iload_n 3, 1) := by decide +kernel
theorem dL_law_331 : decode cL_law 331 = .ok (.iconst 3, 1) := by decide +kernel
theorem dL_law_332 : decode cL_law 332 = .ok (.iadd, 1) := by decide +kernel
theorem dL_law_333 : decode cL_law 333 = .ok (.iaload, 1) := by decide +kernel
theorem dL_law_334 : decode cL_law 334 = .ok (.invokevirtual 35, 3) := by decide +kernel
theorem dL_law_337 : decode cL_law 337 = .ok (.pop, 1) := by decide +kernel
theorem dL_law_338 : decode cL_law 338 = .ok (.aload_n 2, 1) := by decide +kernel
theorem dL_law_339 : decode cL_law 339 = .ok (.aload_n 0, 1) := by decide +kernel
theorem dL_law_340 : decode cL_law 340 = .ok (.iload_n 3, 1) := by decide +kernel
theorem dL_law_341 : decode cL_law 341 = .ok (.iconst 1, 1) := by decide +kernel
theorem dL_law_342 : decode cL_law 342 = .ok (.iadd, 1) := by decide +kernel
theorem dL_law_343 : decode cL_law 343 = .ok (.iaload, 1) := by decide +kernel
theorem dL_law_344 : decode cL_law 344 = .ok (.aload_n 0, 1) := by decide +kernel
theorem dL_law_345 : decode cL_law 345 = .ok (.iload_n 3, 1) := by decide +kernel
theorem dL_law_346 : decode cL_law 346 = .ok (.iconst 2, 1) := by decide +kernel
theorem dL_law_347 : decode cL_law 347 = .ok (.iadd, 1) := by decide +kernel
theorem dL_law_348 : decode cL_law 348 = .ok (.iaload, 1) := by decide +kernel
theorem dL_law_349 : decode cL_law 349 = .ok (.aload_n 0, 1) := by decide +kernel
theorem dL_law_350 : decode cL_law 350 = .ok (.iload_n 3, 1) := by decide +kernel
theorem dL_law_351 : decode cL_law 351 = .ok (.iconst 3, 1) := by decide +kernel
theorem dL_law_352 : decode cL_law 352 = .ok (.iadd, 1) := by decide +kernel
theorem dL_law_353 : decode cL_law 353 = .ok (.iaload, 1) := by decide +kernel
theorem dL_law_354 : decode cL_law 354 = .ok (.invokevirtual 38, 3) := by decide +kernel
theorem dL_law_357 : decode cL_law 357 = .ok (.pop, 1) := by decide +kernel
theorem dL_law_358 : decode cL_law 358 = .ok (.goto 694, 3) := by decide +kernel
theorem dL_law_361 : decode cL_law 361 = .ok (.aload_n 1, 1) := by decide +kernel
theorem dL_law_362 : decode cL_law 362 = .ok (.aload_n 0, 1) := by decide +kernel
theorem dL_law_363 : decode cL_law 363 = .ok (.iload_n 3, 1) := by decide +kernel
theorem dL_law_364 : decode cL_law 364 = .ok (.iconst 1, 1) := by decide +kernel
theorem dL_law_365 : decode cL_law 365 = .ok (.iadd, 1) := by decide +kernel
theorem dL_law_366 : decode cL_law 366 = .ok (.iaload, 1) := by decide +kernel
theorem dL_law_367 : decode cL_law 367 = .ok (.aload_n 0, 1) := by decide +kernel
theorem dL_law_368 : decode cL_law 368 = .ok (.iload_n 3, 1) := by decide +kernel
theorem dL_law_369 : decode cL_law 369 = .ok (.iconst 2, 1) := by decide +kernel
theorem dL_law_370 : decode cL_law 370 = .ok (.iadd, 1) := by decide +kernel
theorem dL_law_371 : decode cL_law 371 = .ok (.iaload, 1) := by decide +kernel
theorem dL_law_372 : decode cL_law 372 = .ok (.invokevirtual 39, 3) := by decide +kernel
theorem dL_law_375 : decode cL_law 375 = .ok (.pop, 1) := by decide +kernel
theorem dL_law_376 : decode cL_law 376 = .ok (.aload_n 2, 1) := by decide +kernel
theorem dL_law_377 : decode cL_law 377 = .ok (.aload_n 0, 1) := by decide +kernel
theorem dL_law_378 : decode cL_law 378 = .ok (.iload_n 3, 1) := by decide +kernel
theorem dL_law_379 : decode cL_law 379 = .ok (.iconst 1, 1) := by decide +kernel
theorem dL_law_380 : decode cL_law 380 = .ok (.iadd, 1) := by decide +kernel
theorem dL_law_381 : decode cL_law 381 = .ok (.iaload, 1) := by decide +kernel
theorem dL_law_382 : decode cL_law 382 = .ok (.aload_n 0, 1) := by decide +kernel
theorem dL_law_383 : decode cL_law 383 = .ok (.iload_n 3, 1) := by decide +kernel
theorem dL_law_384 : decode cL_law 384 = .ok (.iconst 2, 1) := by decide +kernel
theorem dL_law_385 : decode cL_law 385 = .ok (.iadd, 1) := by decide +kernel
theorem dL_law_386 : decode cL_law 386 = .ok (.iaload, 1) := by decide +kernel
theorem dL_law_387 : decode cL_law 387 = .ok (.invokevirtual 43, 3) := by decide +kernel
theorem dL_law_390 : decode cL_law 390 = .ok (.pop, 1) := by decide +kernel
theorem dL_law_391 : decode cL_law 391 = .ok (.goto 661, 3) := by decide +kernel
theorem dL_law_394 : decode cL_law 394 = .ok (.aload_n 1, 1) := by decide +kernel
theorem dL_law_395 : decode cL_law 395 = .ok (.aload_n 0, 1) := by decide +kernel
theorem dL_law_396 : decode cL_law 396 = .ok (.iload_n 3, 1) := by decide +kernel
theorem dL_law_397 : decode cL_law 397 = .ok (.iconst 1, 1) := by decide +kernel
theorem dL_law_398 : decode cL_law 398 = .ok (.iadd, 1) := by decide +kernel
theorem dL_law_399 : decode cL_law 399 = .ok (.iaload, 1) := by decide +kernel
theorem dL_law_400 : decode cL_law 400 = .ok (.invokevirtual 44, 3) := by decide +kernel
theorem dL_law_403 : decode cL_law 403 = .ok (.pop, 1) := by decide +kernel
theorem dL_law_404 : decode cL_law 404 = .ok (.aload_n 2, 1) := by decide +kernel
theorem dL_law_405 : decode cL_law 405 = .ok (.aload_n 0, 1) := by decide +kernel
theorem dL_law_406 : decode cL_law 406 = .ok (.iload_n 3, 1) := by decide +kernel
theorem dL_law_407 : decode cL_law 407 = .ok (.iconst 1, 1) := by decide +kernel
theorem dL_law_408 : decode cL_law 408 = .ok (.iadd, 1) := by decide +kernel
theorem dL_law_409 : decode cL_law 409 = .ok (.iaload, 1) := by decide +kernel
theorem dL_law_410 : decode cL_law 410 = .ok (.invokevirtual 47, 3) := by decide +kernel
theorem dL_law_413 : decode cL_law 413 = .ok (.pop, 1) := by decide +kernel
theorem dL_law_414 : decode cL_law 414 = .ok (.goto 638, 3) := by decide +kernel
theorem dL_law_417 : decode cL_law 417 = .ok (.aload_n 1, 1) := by decide +kernel
theorem dL_law_418 : decode cL_law 418 = .ok (.aload_n 0, 1) := by decide +kernel
theorem dL_law_419 : decode cL_law 419 = .ok (.iload_n 3, 1) := by decide +kernel
theorem dL_law_420 : decode cL_law 420 = .ok (.iconst 1, 1) := by decide +kernel
theorem dL_law_421 : decode cL_law 421 = .ok (.iadd, 1) := by decide +kernel
theorem dL_law_422 : decode cL_law 422 = .ok (.iaload, 1) := by decide +kernel
theorem dL_law_423 : decode cL_law 423 = .ok (.invokevirtual 48, 3) := by decide +kernel
theorem dL_law_426 : decode cL_law 426 = .ok (.pop, 1) := by decide +kernel
theorem dL_law_427 : decode cL_law 427 = .ok (.aload_n 2, 1) := by decide +kernel
theorem dL_law_428 : decode cL_law 428 = .ok (.aload_n 0, 1) := by decide +kernel
theorem dL_law_429 : decode cL_law 429 = .ok (.iload_n 3, 1) := by decide +kernel
theorem dL_law_430 : decode cL_law 430 = .ok (.iconst 1, 1) := by decide +kernel
theorem dL_law_431 : decode cL_law 431 = .ok (.iadd, 1) := by decide +kernel
theorem dL_law_432 : decode cL_law 432 = .ok (.iaload, 1) := by decide +kernel
theorem dL_law_433 : decode cL_law 433 = .ok (.invokevirtual 51, 3) := by decide +kernel
theorem dL_law_436 : decode cL_law 436 = .ok (.pop, 1) := by decide +kernel
theorem dL_law_437 : decode cL_law 437 = .ok (.goto 615, 3) := by decide +kernel
theorem dL_law_440 : decode cL_law 440 = .ok (.aload_n 1, 1) := by decide +kernel
theorem dL_law_441 : decode cL_law 441 = .ok (.aload_n 0, 1) := by decide +kernel
theorem dL_law_442 : decode cL_law 442 = .ok (.iload_n 3, 1) := by decide +kernel
theorem dL_law_443 : decode cL_law 443 = .ok (.iconst 1, 1) := by decide +kernel
theorem dL_law_444 : decode cL_law 444 = .ok (.iadd, 1) := by decide +kernel
theorem dL_law_445 : decode cL_law 445 = .ok (.iaload, 1) := by decide +kernel
theorem dL_law_446 : decode cL_law 446 = .ok (.aload_n 0, 1) := by decide +kernel
theorem dL_law_447 : decode cL_law 447 = .ok (.iload_n 3, 1) := by decide +kernel
theorem dL_law_448 : decode cL_law 448 = .ok (.iconst 2, 1) := by decide +kernel
theorem dL_law_449 : decode cL_law 449 = .ok (.iadd, 1) := by decide +kernel
theorem dL_law_450 : decode cL_law 450 = .ok (.iaload, 1) := by decide +kernel
theorem dL_law_451 : decode cL_law 451 = .ok (.invokevirtual 52, 3) := by decide +kernel
theorem dL_law_454 : decode cL_law 454 = .ok (.pop, 1) := by decide +kernel
theorem dL_law_455 : decode cL_law 455 = .ok (.aload_n 2, 1) := by decide +kernel
theorem dL_law_456 : decode cL_law 456 = .ok (.aload_n 0, 1) := by decide +kernel
theorem dL_law_457 : decode cL_law 457 = .ok (.iload_n 3, 1) := by decide +kernel
theorem dL_law_458 : decode cL_law 458 = .ok (.iconst 1, 1) := by decide +kernel
theorem dL_law_459 : decode cL_law 459 = .ok (.iadd, 1) := by decide +kernel
theorem dL_law_460 : decode cL_law 460 = .ok (.iaload, 1) := by decide +kernel
theorem dL_law_461 : decode cL_law 461 = .ok (.aload_n 0, 1) := by decide +kernel
theorem dL_law_462 : decode cL_law 462 = .ok (.iload_n 3, 1) := by decide +kernel
theorem dL_law_463 : decode cL_law 463 = .ok (.iconst 2, 1) := by decide +kernel
theorem dL_law_464 : decode cL_law 464 = .ok (.iadd, 1) := by decide +kernel
theorem dL_law_465 : decode cL_law 465 = .ok (.iaload, 1) := by decide +kernel
theorem dL_law_466 : decode cL_law 466 = .ok (.invokevirtual 55, 3) := by decide +kernel
theorem dL_law_469 : decode cL_law 469 = .ok (.pop, 1) := by decide +kernel
theorem dL_law_470 : decode cL_law 470 = .ok (.goto 582, 3) := by decide +kernel
theorem dL_law_473 : decode cL_law 473 = .ok (.aload_n 1, 1) := by decide +kernel
theorem dL_law_474 : decode cL_law 474 = .ok (.aload_n 0, 1) := by decide +kernel
theorem dL_law_475 : decode cL_law 475 = .ok (.iload_n 3, 1) := by decide +kernel
theorem dL_law_476 : decode cL_law 476 = .ok (.iconst 1, 1) := by decide +kernel
theorem dL_law_477 : decode cL_law 477 = .ok (.iadd, 1) := by decide +kernel
theorem dL_law_478 : decode cL_law 478 = .ok (.iaload, 1) := by decide +kernel
theorem dL_law_479 : decode cL_law 479 = .ok (.invokevirtual 56, 3) := by decide +kernel
theorem dL_law_482 : decode cL_law 482 = .ok (.pop, 1) := by decide +kernel
theorem dL_law_483 : decode cL_law 483 = .ok (.aload_n 2, 1) := by decide +kernel
theorem dL_law_484 : decode cL_law 484 = .ok (.aload_n 0, 1) := by decide +kernel
theorem dL_law_485 : decode cL_law 485 = .ok (.iload_n 3, 1) := by decide +kernel
theorem dL_law_486 : decode cL_law 486 = .ok (.iconst 1, 1) := by decide +kernel
theorem dL_law_487 : decode cL_law 487 = .ok (.iadd, 1) := by decide +kernel
theorem dL_law_488 : decode cL_law 488 = .ok (.iaload, 1) := by decide +kernel
theorem dL_law_489 : decode cL_law 489 = .ok (.invokevirtual 59, 3) := by decide +kernel
theorem dL_law_492 : decode cL_law 492 = .ok (.pop, 1) := by decide +kernel
theorem dL_law_493 : decode cL_law 493 = .ok (.goto 559, 3) := by decide +kernel
theorem dL_law_496 : decode cL_law 496 = .ok (.aload_n 1, 1) := by decide +kernel
theorem dL_law_497 : decode cL_law 497 = .ok (.aload_n 0, 1) := by decide +kernel
theorem dL_law_498 : decode cL_law 498 = .ok (.iload_n 3, 1) := by decide +kernel
theorem dL_law_499 : decode cL_law 499 = .ok (.iconst 1, 1) := by decide +kernel
theorem dL_law_500 : decode cL_law 500 = .ok (.iadd, 1) := by decide +kernel
theorem dL_law_501 : decode cL_law 501 = .ok (.iaload, 1) := by decide +kernel
theorem dL_law_502 : decode cL_law 502 = .ok (.aload_n 0, 1) := by decide +kernel
theorem dL_law_503 : decode cL_law 503 = .ok (.iload_n 3, 1) := by decide +kernel
theorem dL_law_504 : decode cL_law 504 = .ok (.iconst 2, 1) := by decide +kernel
theorem dL_law_505 : decode cL_law 505 = .ok (.iadd, 1) := by decide +kernel
theorem dL_law_506 : decode cL_law 506 = .ok (.iaload, 1) := by decide +kernel
theorem dL_law_507 : decode cL_law 507 = .ok (.invokevirtual 60, 3) := by decide +kernel
theorem dL_law_510 : decode cL_law 510 = .ok (.pop, 1) := by decide +kernel
theorem dL_law_511 : decode cL_law 511 = .ok (.aload_n 2, 1) := by decide +kernel
theorem dL_law_512 : decode cL_law 512 = .ok (.aload_n 0, 1) := by decide +kernel
theorem dL_law_513 : decode cL_law 513 = .ok (.iload_n 3, 1) := by decide +kernel
theorem dL_law_514 : decode cL_law 514 = .ok (.iconst 1, 1) := by decide +kernel
theorem dL_law_515 : decode cL_law 515 = .ok (.iadd, 1) := by decide +kernel
theorem dL_law_516 : decode cL_law 516 = .ok (.iaload, 1) := by decide +kernel
theorem dL_law_517 : decode cL_law 517 = .ok (.aload_n 0, 1) := by decide +kernel
theorem dL_law_518 : decode cL_law 518 = .ok (.iload_n 3, 1) := by decide +kernel
theorem dL_law_519 : decode cL_law 519 = .ok (.iconst 2, 1) := by decide +kernel
theorem dL_law_520 : decode cL_law 520 = .ok (.iadd, 1) := by decide +kernel
theorem dL_law_521 : decode cL_law 521 = .ok (.iaload, 1) := by decide +kernel
theorem dL_law_522 : decode cL_law 522 = .ok (.invokevirtual 63, 3) := by decide +kernel
theorem dL_law_525 : decode cL_law 525 = .ok (.pop, 1) := by decide +kernel
theorem dL_law_526 : decode cL_law 526 = .ok (.goto 526, 3) := by decide +kernel
theorem dL_law_529 : decode cL_law 529 = .ok (.aload_n 1, 1) := by decide +kernel
theorem dL_law_530 : decode cL_law 530 = .ok (.aload_n 0, 1) := by decide +kernel
theorem dL_law_531 : decode cL_law 531 = .ok (.iload_n 3, 1) := by decide +kernel
theorem dL_law_532 : decode cL_law 532 = .ok (.iconst 1, 1) := by decide +kernel
theorem dL_law_533 : decode cL_law 533 = .ok (.iadd, 1) := by decide +kernel
theorem dL_law_534 : decode cL_law 534 = .ok (.iaload, 1) := by decide +kernel
theorem dL_law_535 : decode cL_law 535 = .ok (.invokevirtual 64, 3) := by decide +kernel
theorem dL_law_538 : decode cL_law 538 = .ok (.pop, 1) := by decide +kernel
theorem dL_law_539 : decode cL_law 539 = .ok (.aload_n 2, 1) := by decide +kernel
theorem dL_law_540 : decode cL_law 540 = .ok (.aload_n 0, 1) := by decide +kernel
theorem dL_law_541 : decode cL_law 541 = .ok (.iload_n 3, 1) := by decide +kernel
theorem dL_law_542 : decode cL_law 542 = .ok (.iconst 1, 1) := by decide +kernel
theorem dL_law_543 : decode cL_law 543 = .ok (.iadd, 1) := by decide +kernel
theorem dL_law_544 : decode cL_law 544 = .ok (.iaload, 1) := by decide +kernel
theorem dL_law_545 : decode cL_law 545 = .ok (.invokevirtual 67, 3) := by decide +kernel
theorem dL_law_548 : decode cL_law 548 = .ok (.pop, 1) := by decide +kernel
theorem dL_law_549 : decode cL_law 549 = .ok (.goto 503, 3) := by decide +kernel
theorem dL_law_552 : decode cL_law 552 = .ok (.aload_n 1, 1) := by decide +kernel
theorem dL_law_553 : decode cL_law 553 = .ok (.invokevirtual 68, 3) := by decide +kernel
theorem dL_law_556 : decode cL_law 556 = .ok (.pop, 1) := by decide +kernel
theorem dL_law_557 : decode cL_law 557 = .ok (.aload_n 2, 1) := by decide +kernel
theorem dL_law_558 : decode cL_law 558 = .ok (.invokevirtual 71, 3) := by decide +kernel
theorem dL_law_561 : decode cL_law 561 = .ok (.pop, 1) := by decide +kernel
theorem dL_law_562 : decode cL_law 562 = .ok (.goto 490, 3) := by decide +kernel
theorem dL_law_565 : decode cL_law 565 = .ok (.aload_n 1, 1) := by decide +kernel
theorem dL_law_566 : decode cL_law 566 = .ok (.aload_n 0, 1) := by decide +kernel
theorem dL_law_567 : decode cL_law 567 = .ok (.iload_n 3, 1) := by decide +kernel
theorem dL_law_568 : decode cL_law 568 = .ok (.iconst 1, 1) := by decide +kernel
theorem dL_law_569 : decode cL_law 569 = .ok (.iadd, 1) := by decide +kernel
theorem dL_law_570 : decode cL_law 570 = .ok (.iaload, 1) := by decide +kernel
theorem dL_law_571 : decode cL_law 571 = .ok (.invokevirtual 72, 3) := by decide +kernel
theorem dL_law_574 : decode cL_law 574 = .ok (.pop, 1) := by decide +kernel
theorem dL_law_575 : decode cL_law 575 = .ok (.aload_n 2, 1) := by decide +kernel
theorem dL_law_576 : decode cL_law 576 = .ok (.aload_n 0, 1) := by decide +kernel
theorem dL_law_577 : decode cL_law 577 = .ok (.iload_n 3, 1) := by decide +kernel
theorem dL_law_578 : decode cL_law 578 = .ok (.iconst 1, 1) := by decide +kernel
theorem dL_law_579 : decode cL_law 579 = .ok (.iadd, 1) := by decide +kernel
theorem dL_law_580 : decode cL_law 580 = .ok (.iaload, 1) := by decide +kernel
theorem dL_law_581 : decode cL_law 581 = .ok (.invokevirtual 75, 3) := by decide +kernel
theorem dL_law_584 : decode cL_law 584 = .ok (.pop, 1) := by decide +kernel
theorem dL_law_585 : decode cL_law 585 = .ok (.goto 467, 3) := by decide +kernel
theorem dL_law_588 : decode cL_law 588 = .ok (.aload_n 1, 1) := by decide +kernel
theorem dL_law_589 : decode cL_law 589 = .ok (.aload_n 0, 1) := by decide +kernel
theorem dL_law_590 : decode cL_law 590 = .ok (.iload_n 3, 1) := by decide +kernel
theorem dL_law_591 : decode cL_law 591 = .ok (.iconst 1, 1) := by decide +kernel
theorem dL_law_592 : decode cL_law 592 = .ok (.iadd, 1) := by decide +kernel
theorem dL_law_593 : decode cL_law 593 = .ok (.iaload, 1) := by decide +kernel
theorem dL_law_594 : decode cL_law 594 = .ok (.invokevirtual 76, 3) := by decide +kernel
theorem dL_law_597 : decode cL_law 597 = .ok (.pop, 1) := by decide +kernel
theorem dL_law_598 : decode cL_law 598 = .ok (.aload_n 2, 1) := by decide +kernel
theorem dL_law_599 : decode cL_law 599 = .ok (.aload_n 0, 1) := by decide +kernel
theorem dL_law_600 : decode cL_law 600 = .ok (.iload_n 3, 1) := by decide +kernel
theorem dL_law_601 : decode cL_law 601 = .ok (.iconst 1, 1) := by decide +kernel
theorem dL_law_602 : decode cL_law 602 = .ok (.iadd, 1) := by decide +kernel
theorem dL_law_603 : decode cL_law 603 = .ok (.iaload, 1) := by decide +kernel
theorem dL_law_604 : decode cL_law 604 = .ok (.invokevirtual 79, 3) := by decide +kernel
theorem dL_law_607 : decode cL_law 607 = .ok (.pop, 1) := by decide +kernel
theorem dL_law_608 : decode cL_law 608 = .ok (.goto 444, 3) := by decide +kernel
theorem dL_law_611 : decode cL_law 611 = .ok (.aload_n 1, 1) := by decide +kernel
theorem dL_law_612 : decode cL_law 612 = .ok (.aload_n 0, 1) := by decide +kernel
theorem dL_law_613 : decode cL_law 613 = .ok (.iload_n 3, 1) := by decide +kernel
theorem dL_law_614 : decode cL_law 614 = .ok (.iconst 1, 1) := by decide +kernel
theorem dL_law_615 : decode cL_law 615 = .ok (.iadd, 1) := by decide +kernel
theorem dL_law_616 : decode cL_law 616 = .ok (.iaload, 1) := by decide +kernel
theorem dL_law_617 : decode cL_law 617 = .ok (.aload_n 0, 1) := by decide +kernel
theorem dL_law_618 : decode cL_law 618 = .ok (.iload_n 3, 1) := by decide +kernel
theorem dL_law_619 : decode cL_law 619 = .ok (.iconst 2, 1) := by decide +kernel
theorem dL_law_620 : decode cL_law 620 = .ok (.iadd, 1) := by decide +kernel
theorem dL_law_621 : decode cL_law 621 = .ok (.iaload, 1) := by decide +kernel
theorem dL_law_622 : decode cL_law 622 = .ok (.invokevirtual 80, 3) := by decide +kernel
theorem dL_law_625 : decode cL_law 625 = .ok (.pop, 1) := by decide +kernel
theorem dL_law_626 : decode cL_law 626 = .ok (.aload_n 2, 1) := by decide +kernel
theorem dL_law_627 : decode cL_law 627 = .ok (.aload_n 0, 1) := by decide +kernel
theorem dL_law_628 : decode cL_law 628 = .ok (.iload_n 3, 1) := by decide +kernel
theorem dL_law_629 : decode cL_law 629 = .ok (.iconst 1, 1) := by decide +kernel
theorem dL_law_630 : decode cL_law 630 = .ok (.iadd, 1) := by decide +kernel
theorem dL_law_631 : decode cL_law 631 = .ok (.iaload, 1) := by decide +kernel
theorem dL_law_632 : decode cL_law 632 = .ok (.aload_n 0, 1) := by decide +kernel
theorem dL_law_633 : decode cL_law 633 = .ok (.iload_n 3, 1) := by decide +kernel
theorem dL_law_634 : decode cL_law 634 = .ok (.iconst 2, 1) := by decide +kernel
theorem dL_law_635 : decode cL_law 635 = .ok (.iadd, 1) := by decide +kernel
theorem dL_law_636 : decode cL_law 636 = .ok (.iaload, 1) := by decide +kernel
theorem dL_law_637 : decode cL_law 637 = .ok (.invokevirtual 83, 3) := by decide +kernel
theorem dL_law_640 : decode cL_law 640 = .ok (.pop, 1) := by decide +kernel
theorem dL_law_641 : decode cL_law 641 = .ok (.goto 411, 3) := by decide +kernel
theorem dL_law_644 : decode cL_law 644 = .ok (.aload_n 1, 1) := by decide +kernel
theorem dL_law_645 : decode cL_law 645 = .ok (.aload_n 0, 1) := by decide +kernel
theorem dL_law_646 : decode cL_law 646 = .ok (.iload_n 3, 1) := by decide +kernel
theorem dL_law_647 : decode cL_law 647 = .ok (.iconst 1, 1) := by decide +kernel
theorem dL_law_648 : decode cL_law 648 = .ok (.iadd, 1) := by decide +kernel
theorem dL_law_649 : decode cL_law 649 = .ok (.iaload, 1) := by decide +kernel
theorem dL_law_650 : decode cL_law 650 = .ok (.invokevirtual 84, 3) := by decide +kernel
theorem dL_law_653 : decode cL_law 653 = .ok (.pop, 1) := by decide +kernel
theorem dL_law_654 : decode cL_law 654 = .ok (.aload_n 2, 1) := by decide +kernel
theorem dL_law_655 : decode cL_law 655 = .ok (.aload_n 0, 1) := by decide +kernel
theorem dL_law_656 : decode cL_law 656 = .ok (.iload_n 3, 1) := by decide +kernel
theorem dL_law_657 : decode cL_law 657 = .ok (.iconst 1, 1) := by decide +kernel
theorem dL_law_658 : decode cL_law 658 = .ok (.iadd, 1) := by decide +kernel
theorem dL_law_659 : decode cL_law 659 = .ok (.iaload, 1) := by decide +kernel
theorem dL_law_660 : decode cL_law 660 = .ok (.invokevirtual 87, 3) := by decide +kernel
theorem dL_law_663 : decode cL_law 663 = .ok (.pop, 1) := by decide +kernel
theorem dL_law_664 : decode cL_law 664 = .ok (.goto 388, 3) := by decide +kernel
theorem dL_law_667 : decode cL_law 667 = .ok (.aload_n 1, 1) := by decide +kernel
theorem dL_law_668 : decode cL_law 668 = .ok (.aload_n 0, 1) := by decide +kernel
theorem dL_law_669 : decode cL_law 669 = .ok (.iload_n 3, 1) := by decide +kernel
theorem dL_law_670 : decode cL_law 670 = .ok (.iconst 1, 1) := by decide +kernel
theorem dL_law_671 : decode cL_law 671 = .ok (.iadd, 1) := by decide +kernel
theorem dL_law_672 : decode cL_law 672 = .ok (.iaload, 1) := by decide +kernel
theorem dL_law_673 : decode cL_law 673 = .ok (.aload_n 0, 1) := by decide +kernel
theorem dL_law_674 : decode cL_law 674 = .ok (.iload_n 3, 1) := by decide +kernel
theorem dL_law_675 : decode cL_law 675 = .ok (.iconst 2, 1) := by decide +kernel
theorem dL_law_676 : decode cL_law 676 = .ok (.iadd, 1) := by decide +kernel
theorem dL_law_677 : decode cL_law 677 = .ok (.iaload, 1) := by decide +kernel
theorem dL_law_678 : decode cL_law 678 = .ok (.invokevirtual 88, 3) := by decide +kernel
theorem dL_law_681 : decode cL_law 681 = .ok (.pop, 1) := by decide +kernel
theorem dL_law_682 : decode cL_law 682 = .ok (.aload_n 2, 1) := by decide +kernel
theorem dL_law_683 : decode cL_law 683 = .ok (.aload_n 0, 1) := by decide +kernel
theorem dL_law_684 : decode cL_law 684 = .ok (.iload_n 3, 1) := by decide +kernel
theorem dL_law_685 : decode cL_law 685 = .ok (.iconst 1, 1) := by decide +kernel
theorem dL_law_686 : decode cL_law 686 = .ok (.iadd, 1) := by decide +kernel
theorem dL_law_687 : decode cL_law 687 = .ok (.iaload, 1) := by decide +kernel
theorem dL_law_688 : decode cL_law 688 = .ok (.aload_n 0, 1) := by decide +kernel
theorem dL_law_689 : decode cL_law 689 = .ok (.iload_n 3, 1) := by decide +kernel
theorem dL_law_690 : decode cL_law 690 = .ok (.iconst 2, 1) := by decide +kernel
theorem dL_law_691 : decode cL_law 691 = .ok (.iadd, 1) := by decide +kernel
theorem dL_law_692 : decode cL_law 692 = .ok (.iaload, 1) := by decide +kernel
theorem dL_law_693 : decode cL_law 693 = .ok (.invokevirtual 91, 3) := by decide +kernel
theorem dL_law_696 : decode cL_law 696 = .ok (.pop, 1) := by decide +kernel
theorem dL_law_697 : decode cL_law 697 = .ok (.goto 355, 3) := by decide +kernel
theorem dL_law_700 : decode cL_law 700 = .ok (.aload_n 1, 1) := by decide +kernel
theorem dL_law_701 : decode cL_law 701 = .ok (.aload_n 0, 1) := by decide +kernel
theorem dL_law_702 : decode cL_law 702 = .ok (.iload_n 3, 1) := by decide +kernel
theorem dL_law_703 : decode cL_law 703 = .ok (.iconst 1, 1) := by decide +kernel
theorem dL_law_704 : decode cL_law 704 = .ok (.iadd, 1) := by decide +kernel
theorem dL_law_705 : decode cL_law 705 = .ok (.iaload, 1) := by decide +kernel
theorem dL_law_706 : decode cL_law 706 = .ok (.aload_n 0, 1) := by decide +kernel
theorem dL_law_707 : decode cL_law 707 = .ok (.iload_n 3, 1) := by decide +kernel
theorem dL_law_708 : decode cL_law 708 = .ok (.iconst 2, 1) := by decide +kernel
theorem dL_law_709 : decode cL_law 709 = .ok (.iadd, 1) := by decide +kernel
theorem dL_law_710 : decode cL_law 710 = .ok (.iaload, 1) := by decide +kernel
theorem dL_law_711 : decode cL_law 711 = .ok (.invokevirtual 92, 3) := by decide +kernel
theorem dL_law_714 : decode cL_law 714 = .ok (.pop, 1) := by decide +kernel
theorem dL_law_715 : decode cL_law 715 = .ok (.aload_n 2, 1) := by decide +kernel
theorem dL_law_716 : decode cL_law 716 = .ok (.aload_n 0, 1) := by decide +kernel
theorem dL_law_717 : decode cL_law 717 = .ok (.iload_n 3, 1) := by decide +kernel
theorem dL_law_718 : decode cL_law 718 = .ok (.iconst 1, 1) := by decide +kernel
theorem dL_law_719 : decode cL_law 719 = .ok (.iadd, 1) := by decide +kernel
theorem dL_law_720 : decode cL_law 720 = .ok (.iaload, 1) := by decide +kernel
theorem dL_law_721 : decode cL_law 721 = .ok (.aload_n 0, 1) := by decide +kernel
theorem dL_law_722 : decode cL_law 722 = .ok (.iload_n 3, 1) := by decide +kernel
theorem dL_law_723 : decode cL_law 723 = .ok (.iconst 2, 1) := by decide +kernel
theorem dL_law_724 : decode cL_law 724 = .ok (.iadd, 1) := by decide +kernel
theorem dL_law_725 : decode cL_law 725 = .ok (.iaload, 1) := by decide +kernel
theorem dL_law_726 : decode cL_law 726 = .ok (.invokevirtual 95, 3) := by decide +kernel
theorem dL_law_729 : decode cL_law 729 = .ok (.pop, 1) := by decide +kernel
theorem dL_law_730 : decode cL_law 730 = .ok (.goto 322, 3) := by decide +kernel
theorem dL_law_733 : decode cL_law 733 = .ok (.aload_n 1, 1) := by decide +kernel
theorem dL_law_734 : decode cL_law 734 = .ok (.aload_n 0, 1) := by decide +kernel
theorem dL_law_735 : decode cL_law 735 = .ok (.iload_n 3, 1) := by decide +kernel
theorem dL_law_736 : decode cL_law 736 = .ok (.iconst 1, 1) := by decide +kernel
theorem dL_law_737 : decode cL_law 737 = .ok (.iadd, 1) := by decide +kernel
theorem dL_law_738 : decode cL_law 738 = .ok (.iaload, 1) := by decide +kernel
theorem dL_law_739 : decode cL_law 739 = .ok (.invokevirtual 96, 3) := by decide +kernel
theorem dL_law_742 : decode cL_law 742 = .ok (.pop, 1) := by decide +kernel
theorem dL_law_743 : decode cL_law 743 = .ok (.aload_n 2, 1) := by decide +kernel
theorem dL_law_744 : decode cL_law 744 = .ok (.aload_n 0, 1) := by decide +kernel
theorem dL_law_745 : decode cL_law 745 = .ok (.iload_n 3, 1) := by decide +kernel
theorem dL_law_746 : decode cL_law 746 = .ok (.iconst 1, 1) := by decide +kernel
theorem dL_law_747 : decode cL_law 747 = .ok (.iadd, 1) := by decide +kernel
theorem dL_law_748 : decode cL_law 748 = .ok (.iaload, 1) := by decide +kernel
theorem dL_law_749 : decode cL_law 749 = .ok (.invokevirtual 99, 3) := by decide +kernel
theorem dL_law_752 : decode cL_law 752 = .ok (.pop, 1) := by decide +kernel
theorem dL_law_753 : decode cL_law 753 = .ok (.goto 299, 3) := by decide +kernel
theorem dL_law_756 : decode cL_law 756 = .ok (.aload_n 1, 1) := by decide +kernel
theorem dL_law_757 : decode cL_law 757 = .ok (.aload_n 0, 1) := by decide +kernel
theorem dL_law_758 : decode cL_law 758 = .ok (.iload_n 3, 1) := by decide +kernel
theorem dL_law_759 : decode cL_law 759 = .ok (.iconst 1, 1) := by decide +kernel
theorem dL_law_760 : decode cL_law 760 = .ok (.iadd, 1) := by decide +kernel
theorem dL_law_761 : decode cL_law 761 = .ok (.iaload, 1) := by decide +kernel
theorem dL_law_762 : decode cL_law 762 = .ok (.aload_n 0, 1) := by decide +kernel
theorem dL_law_763 : decode cL_law 763 = .ok (.iload_n 3, 1) := by decide +kernel
theorem dL_law_764 : decode cL_law 764 = .ok (.iconst 2, 1) := by decide +kernel
theorem dL_law_765 : decode cL_law 765 = .ok (.iadd, 1) := by decide +kernel
theorem dL_law_766 : decode cL_law 766 = .ok (.iaload, 1) := by decide +kernel
theorem dL_law_767 : decode cL_law 767 = .ok (.aload_n 0, 1) := by decide +kernel
theorem dL_law_768 : decode cL_law 768 = .ok (.iload_n 3, 1) := by decide +kernel
theorem dL_law_769 : decode cL_law 769 = .ok (.iconst 3, 1) := by decide +kernel
theorem dL_law_770 : decode cL_law 770 = .ok (.iadd, 1) := by decide +kernel
theorem dL_law_771 : decode cL_law 771 = .ok (.iaload, 1) := by decide +kernel
theorem dL_law_772 : decode cL_law 772 = .ok (.invokevirtual 100, 3) := by decide +kernel
theorem dL_law_775 : decode cL_law 775 = .ok (.pop, 1) := by decide +kernel
theorem dL_law_776 : decode cL_law 776 = .ok (.aload_n 2, 1) := by decide +kernel
theorem dL_law_777 : decode cL_law 777 = .ok (.aload_n 0, 1) := by decide +kernel
theorem dL_law_778 : decode cL_law 778 = .ok (.iload_n 3, 1) := by decide +kernel
theorem dL_law_779 : decode cL_law 779 = .ok (.iconst 1, 1) := by decide +kernel
theorem dL_law_780 : decode cL_law 780 = .ok (.iadd, 1) := by decide +kernel
theorem dL_law_781 : decode cL_law 781 = .ok (.iaload, 1) := by decide +kernel
theorem dL_law_782 : decode cL_law 782 = .ok (.aload_n 0, 1) := by decide +kernel
theorem dL_law_783 : decode cL_law 783 = .ok (.iload_n 3, 1) := by decide +kernel
theorem dL_law_784 : decode cL_law 784 = .ok (.iconst 2, 1) := by decide +kernel
theorem dL_law_785 : decode cL_law 785 = .ok (.iadd, 1) := by decide +kernel
theorem dL_law_786 : decode cL_law 786 = .ok (.iaload, 1) := by decide +kernel
theorem dL_law_787 : decode cL_law 787 = .ok (.aload_n 0, 1) := by decide +kernel
theorem dL_law_788 : decode cL_law 788 = .ok (.iload_n 3, 1) := by decide +kernel
theorem dL_law_789 : decode cL_law 789 = .ok (.iconst 3, 1) := by decide +kernel
theorem dL_law_790 : decode cL_law 790 = .ok (.iadd, 1) := by decide +kernel
theorem dL_law_791 : decode cL_law 791 = .ok (.iaload, 1) := by decide +kernel
theorem dL_law_792 : decode cL_law 792 = .ok (.invokevirtual 103, 3) := by decide +kernel
theorem dL_law_795 : decode cL_law 795 = .ok (.pop, 1) := by decide +kernel
theorem dL_law_796 : decode cL_law 796 = .ok (.goto 256, 3) := by decide +kernel
theorem dL_law_799 : decode cL_law 799 = .ok (.aload_n 1, 1) := by decide +kernel
theorem dL_law_800 : decode cL_law 800 = .ok (.aload_n 0, 1) := by decide +kernel
theorem dL_law_801 : decode cL_law 801 = .ok (.iload_n 3, 1) := by decide +kernel
theorem dL_law_802 : decode cL_law 802 = .ok (.iconst 1, 1) := by decide +kernel
theorem dL_law_803 : decode cL_law 803 = .ok (.iadd, 1) := by decide +kernel
theorem dL_law_804 : decode cL_law 804 = .ok (.iaload, 1) := by decide +kernel
theorem dL_law_805 : decode cL_law 805 = .ok (.aload_n 0, 1) := by decide +kernel
theorem dL_law_806 : decode cL_law 806 = .ok (.iload_n 3, 1) := by decide +kernel
theorem dL_law_807 : decode cL_law 807 = .ok (.iconst 2, 1) := by decide +kernel
theorem dL_law_808 : decode cL_law 808 = .ok (.iadd, 1) := by decide +kernel
theorem dL_law_809 : decode cL_law 809 = .ok (.iaload, 1) := by decide +kernel
theorem dL_law_810 : decode cL_law 810 = .ok (.invokevirtual 104, 3) := by decide +kernel
theorem dL_law_813 : decode cL_law 813 = .ok (.pop, 1) := by decide +kernel
theorem dL_law_814 : decode cL_law 814 = .ok (.aload_n 2, 1) := by decide +kernel
theorem dL_law_815 : decode cL_law 815 = .ok (.aload_n 0, 1) := by decide +kernel
theorem dL_law_816 : decode cL_law 816 = .ok (.iload_n 3, 1) := by decide +kernel
theorem dL_law_817 : decode cL_law 817 = .ok (.iconst 1, 1) := by decide +kernel
theorem dL_law_818 : decode cL_law 818 = .ok (.iadd, 1) := by decide +kernel
theorem dL_law_819 : decode cL_law 819 = .ok (.iaload, 1) := by decide +kernel
theorem dL_law_820 : decode cL_law 820 = .ok (.aload_n 0, 1) := by decide +kernel
theorem dL_law_821 : decode cL_law 821 = .ok (.iload_n 3, 1) := by decide +kernel
theorem dL_law_822 : decode cL_law 822 = .ok (.iconst 2, 1) := by decide +kernel
theorem dL_law_823 : decode cL_law 823 = .ok (.iadd, 1) := by decide +kernel
theorem dL_law_824 : decode cL_law 824 = .ok (.iaload, 1) := by decide +kernel
theorem dL_law_825 : decode cL_law 825 = .ok (.invokevirtual 107, 3) := by decide +kernel
theorem dL_law_828 : decode cL_law 828 = .ok (.pop, 1) := by decide +kernel
theorem dL_law_829 : decode cL_law 829 = .ok (.goto 223, 3) := by decide +kernel
theorem dL_law_832 : decode cL_law 832 = .ok (.aload_n 1, 1) := by decide +kernel
theorem dL_law_833 : decode cL_law 833 = .ok (.invokevirtual 108, 3) := by decide +kernel
theorem dL_law_836 : decode cL_law 836 = .ok (.pop, 1) := by decide +kernel
theorem dL_law_837 : decode cL_law 837 = .ok (.aload_n 2, 1) := by decide +kernel
theorem dL_law_838 : decode cL_law 838 = .ok (.invokevirtual 111, 3) := by decide +kernel
theorem dL_law_841 : decode cL_law 841 = .ok (.pop, 1) := by decide +kernel
theorem dL_law_842 : decode cL_law 842 = .ok (.goto 210, 3) := by decide +kernel
theorem dL_law_845 : decode cL_law 845 = .ok (.aload_n 1, 1) := by decide +kernel
theorem dL_law_846 : decode cL_law 846 = .ok (.aload_n 0, 1) := by decide +kernel
theorem dL_law_847 : decode cL_law 847 = .ok (.iload_n 3, 1) := by decide +kernel
theorem dL_law_848 : decode cL_law 848 = .ok (.iconst 1, 1) := by decide +kernel
theorem dL_law_849 : decode cL_law 849 = .ok (.iadd, 1) := by decide +kernel
theorem dL_law_850 : decode cL_law 850 = .ok (.iaload, 1) := by decide +kernel
theorem dL_law_851 : decode cL_law 851 = .ok (.invokevirtual 112, 3) := by decide +kernel
theorem dL_law_854 : decode cL_law 854 = .ok (.pop, 1) := by decide +kernel
theorem dL_law_855 : decode cL_law 855 = .ok (.aload_n 2, 1) := by decide +kernel
theorem dL_law_856 : decode cL_law 856 = .ok (.aload_n 0, 1) := by decide +kernel
theorem dL_law_857 : decode cL_law 857 = .ok (.iload_n 3, 1) := by decide +kernel
theorem dL_law_858 : decode cL_law 858 = .ok (.iconst 1, 1) := by decide +kernel
theorem dL_law_859 : decode cL_law 859 = .ok (.iadd, 1) := by decide +kernel
theorem dL_law_860 : decode cL_law 860 = .ok (.iaload, 1) := by decide +kernel
theorem dL_law_861 : decode cL_law 861 = .ok (.invokevirtual 115, 3) := by decide +kernel
theorem dL_law_864 : decode cL_law 864 = .ok (.pop, 1) := by decide +kernel
theorem dL_law_865 : decode cL_law 865 = .ok (.goto 187, 3) := by decide +kernel
theorem dL_law_868 : decode cL_law 868 = .ok (.aload_n 1, 1) := by decide +kernel
theorem dL_law_869 : decode cL_law 869 = .ok (.invokevirtual 116, 3) := by decide +kernel
theorem dL_law_872 : decode cL_law 872 = .ok (.pop, 1) := by decide +kernel
theorem dL_law_873 : decode cL_law 873 = .ok (.aload_n 2, 1) := by decide +kernel
theorem dL_law_874 : decode cL_law 874 = .ok (.invokevirtual 119, 3) := by decide +kernel
theorem dL_law_877 : decode cL_law 877 = .ok (.pop, 1) := by decide +kernel
theorem dL_law_878 : decode cL_law 878 = .ok (.goto 174, 3) := by decide +kernel
theorem dL_law_881 : decode cL_law 881 = .ok (.aload_n 1, 1) := by decide +kernel
theorem dL_law_882 : decode cL_law 882 = .ok (.aload_n 0, 1) := by decide +kernel
theorem dL_law_883 : decode cL_law 883 = .ok (.iload_n 3, 1) := by decide +kernel
theorem dL_law_884 : decode cL_law 884 = .ok (.iconst 1, 1) := by decide +kernel
theorem dL_law_885 : decode cL_law 885 = .ok (.iadd, 1) := by decide +kernel
theorem dL_law_886 : decode cL_law 886 = .ok (.iaload, 1) := by decide +kernel
theorem dL_law_887 : decode cL_law 887 = .ok (.invokevirtual 120, 3) := by decide +kernel
theorem dL_law_890 : decode cL_law 890 = .ok (.pop, 1) := by decide +kernel
theorem dL_law_891 : decode cL_law 891 = .ok (.aload_n 2, 1) := by decide +kernel
theorem dL_law_892 : decode cL_law 892 = .ok (.aload_n 0, 1) := by decide +kernel
theorem dL_law_893 : decode cL_law 893 = .ok (.iload_n 3, 1) := by decide +kernel
theorem dL_law_894 : decode cL_law 894 = .ok (.iconst 1, 1) := by decide +kernel
theorem dL_law_895 : decode cL_law 895 = .ok (.iadd, 1) := by decide +kernel
theorem dL_law_896 : decode cL_law 896 = .ok (.iaload, 1) := by decide +kernel
theorem dL_law_897 : decode cL_law 897 = .ok (.invokevirtual 123, 3) := by decide +kernel
theorem dL_law_900 : decode cL_law 900 = .ok (.pop, 1) := by decide +kernel
theorem dL_law_901 : decode cL_law 901 = .ok (.goto 151, 3) := by decide +kernel
theorem dL_law_904 : decode cL_law 904 = .ok (.aload_n 1, 1) := by decide +kernel
theorem dL_law_905 : decode cL_law 905 = .ok (.aload_n 0, 1) := by decide +kernel
theorem dL_law_906 : decode cL_law 906 = .ok (.iload_n 3, 1) := by decide +kernel
theorem dL_law_907 : decode cL_law 907 = .ok (.iconst 1, 1) := by decide +kernel
theorem dL_law_908 : decode cL_law 908 = .ok (.iadd, 1) := by decide +kernel
theorem dL_law_909 : decode cL_law 909 = .ok (.iaload, 1) := by decide +kernel
theorem dL_law_910 : decode cL_law 910 = .ok (.aload_n 0, 1) := by decide +kernel
theorem dL_law_911 : decode cL_law 911 = .ok (.iload_n 3, 1) := by decide +kernel
theorem dL_law_912 : decode cL_law 912 = .ok (.iconst 2, 1) := by decide +kernel
theorem dL_law_913 : decode cL_law 913 = .ok (.iadd, 1) := by decide +kernel
theorem dL_law_914 : decode cL_law 914 = .ok (.iaload, 1) := by decide +kernel
theorem dL_law_915 : decode cL_law 915 = .ok (.aload_n 0, 1) := by decide +kernel
theorem dL_law_916 : decode cL_law 916 = .ok (.iload_n 3, 1) := by decide +kernel
theorem dL_law_917 : decode cL_law 917 = .ok (.iconst 3, 1) := by decide +kernel
theorem dL_law_918 : decode cL_law 918 = .ok (.iadd, 1) := by decide +kernel
theorem dL_law_919 : decode cL_law 919 = .ok (.iaload, 1) := by decide +kernel
theorem dL_law_920 : decode cL_law 920 = .ok (.aload_n 0, 1) := by decide +kernel
theorem dL_law_921 : decode cL_law 921 = .ok (.iload_n 3, 1) := by decide +kernel
theorem dL_law_922 : decode cL_law 922 = .ok (.iconst 4, 1) := by decide +kernel
theorem dL_law_923 : decode cL_law 923 = .ok (.iadd, 1) := by decide +kernel
theorem dL_law_924 : decode cL_law 924 = .ok (.iaload, 1) := by decide +kernel
theorem dL_law_925 : decode cL_law 925 = .ok (.invokevirtual 124, 3) := by decide +kernel
theorem dL_law_928 : decode cL_law 928 = .ok (.pop, 1) := by decide +kernel
theorem dL_law_929 : decode cL_law 929 = .ok (.aload_n 2, 1) := by decide +kernel
theorem dL_law_930 : decode cL_law 930 = .ok (.aload_n 0, 1) := by decide +kernel
theorem dL_law_931 : decode cL_law 931 = .ok (.iload_n 3, 1) := by decide +kernel
theorem dL_law_932 : decode cL_law 932 = .ok (.iconst 1, 1) := by decide +kernel
theorem dL_law_933 : decode cL_law 933 = .ok (.iadd, 1) := by decide +kernel
theorem dL_law_934 : decode cL_law 934 = .ok (.iaload, 1) := by decide +kernel
theorem dL_law_935 : decode cL_law 935 = .ok (.aload_n 0, 1) := by decide +kernel
theorem dL_law_936 : decode cL_law 936 = .ok (.iload_n 3, 1) := by decide +kernel
theorem dL_law_937 : decode cL_law 937 = .ok (.iconst 2, 1) := by decide +kernel
theorem dL_law_938 : decode cL_law 938 = .ok (.iadd, 1) := by decide +kernel
theorem dL_law_939 : decode cL_law 939 = .ok (.iaload, 1) := by decide +kernel
theorem dL_law_940 : decode cL_law 940 = .ok (.aload_n 0, 1) := by decide +kernel
theorem dL_law_941 : decode cL_law 941 = .ok (.iload_n 3, 1) := by decide +kernel
theorem dL_law_942 : decode cL_law 942 = .ok (.iconst 3, 1) := by decide +kernel
theorem dL_law_943 : decode cL_law 943 = .ok (.iadd, 1) := by decide +kernel
theorem dL_law_944 : decode cL_law 944 = .ok (.iaload, 1) := by decide +kernel
theorem dL_law_945 : decode cL_law 945 = .ok (.aload_n 0, 1) := by decide +kernel
theorem dL_law_946 : decode cL_law 946 = .ok (.iload_n 3, 1) := by decide +kernel
theorem dL_law_947 : decode cL_law 947 = .ok (.iconst 4, 1) := by decide +kernel
theorem dL_law_948 : decode cL_law 948 = .ok (.iadd, 1) := by decide +kernel
theorem dL_law_949 : decode cL_law 949 = .ok (.iaload, 1) := by decide +kernel
theorem dL_law_950 : decode cL_law 950 = .ok (.invokevirtual 128, 3) := by decide +kernel
theorem dL_law_953 : decode cL_law 953 = .ok (.pop, 1) := by decide +kernel
theorem dL_law_954 : decode cL_law 954 = .ok (.goto 98, 3) := by decide +kernel
theorem dL_law_957 : decode cL_law 957 = .ok (.aload_n 1, 1) := by decide +kernel
theorem dL_law_958 : decode cL_law 958 = .ok (.aload_n 0, 1) := by decide +kernel
theorem dL_law_959 : decode cL_law 959 = .ok (.iload_n 3, 1) := by decide +kernel
theorem dL_law_960 : decode cL_law 960 = .ok (.iconst 1, 1) := by decide +kernel
theorem dL_law_961 : decode cL_law 961 = .ok (.iadd, 1) := by decide +kernel
theorem dL_law_962 : decode cL_law 962 = .ok (.iaload, 1) := by decide +kernel
theorem dL_law_963 : decode cL_law 963 = .ok (.invokevirtual 129, 3) := by decide +kernel
theorem dL_law_966 : decode cL_law 966 = .ok (.pop, 1) := by decide +kernel
theorem dL_law_967 : decode cL_law 967 = .ok (.aload_n 2, 1) := by decide +kernel
theorem dL_law_968 : decode cL_law 968 = .ok (.aload_n 0, 1) := by decide +kernel
theorem dL_law_969 : decode cL_law 969 = .ok (.iload_n 3, 1) := by decide +kernel
theorem dL_law_970 : decode cL_law 970 = .ok (.iconst 1, 1) := by decide +kernel
theorem dL_law_971 : decode cL_law 971 = .ok (.iadd, 1) := by decide +kernel
theorem dL_law_972 : decode cL_law 972 = .ok (.iaload, 1) := by decide +kernel
theorem dL_law_973 : decode cL_law 973 = .ok (.invokevirtual 132, 3) := by decide +kernel
theorem dL_law_976 : decode cL_law 976 = .ok (.pop, 1) := by decide +kernel
theorem dL_law_977 : decode cL_law 977 = .ok (.goto 75, 3) := by decide +kernel
theorem dL_law_980 : decode cL_law 980 = .ok (.aload_n 1, 1) := by decide +kernel
theorem dL_law_981 : decode cL_law 981 = .ok (.aload_n 0, 1) := by decide +kernel
theorem dL_law_982 : decode cL_law 982 = .ok (.iload_n 3, 1) := by decide +kernel
theorem dL_law_983 : decode cL_law 983 = .ok (.iconst 1, 1) := by decide +kernel
theorem dL_law_984 : decode cL_law 984 = .ok (.iadd, 1) := by decide +kernel
theorem dL_law_985 : decode cL_law 985 = .ok (.iaload, 1) := by decide +kernel
theorem dL_law_986 : decode cL_law 986 = .ok (.invokevirtual 133, 3) := by decide +kernel
theorem dL_law_989 : decode cL_law 989 = .ok (.pop, 1) := by decide +kernel
theorem dL_law_990 : decode cL_law 990 = .ok (.aload_n 2, 1) := by decide +kernel
theorem dL_law_991 : decode cL_law 991 = .ok (.aload_n 0, 1) := by decide +kernel
theorem dL_law_992 : decode cL_law 992 = .ok (.iload_n 3, 1) := by decide +kernel
theorem dL_law_993 : decode cL_law 993 = .ok (.iconst 1, 1) := by decide +kernel
theorem dL_law_994 : decode cL_law 994 = .ok (.iadd, 1) := by decide +kernel
theorem dL_law_995 : decode cL_law 995 = .ok (.iaload, 1) := by decide +kernel
theorem dL_law_996 : decode cL_law 996 = .ok (.invokevirtual 136, 3) := by decide +kernel
theorem dL_law_999 : decode cL_law 999 = .ok (.pop, 1) := by decide +kernel
theorem dL_law_1000 : decode cL_law 1000 = .ok (.goto 52, 3) := by decide +kernel
theorem dL_law_1003 : decode cL_law 1003 = .ok (.aload_n 1, 1) := by decide +kernel
theorem dL_law_1004 : decode cL_law 1004 = .ok (.invokevirtual 137, 3) := by decide +kernel
theorem dL_law_1007 : decode cL_law 1007 = .ok (.pop, 1) := by decide +kernel
theorem dL_law_1008 : decode cL_law 1008 = .ok (.aload_n 2, 1) := by decide +kernel
theorem dL_law_1009 : decode cL_law 1009 = .ok (.invokevirtual 140, 3) := by decide +kernel
theorem dL_law_1012 : decode cL_law 1012 = .ok (.pop, 1) := by decide +kernel
theorem dL_law_1013 : decode cL_law 1013 = .ok (.goto 39, 3) := by decide +kernel
theorem dL_law_1016 : decode cL_law 1016 = .ok (.aload_n 1, 1) := by decide +kernel
theorem dL_law_1017 : decode cL_law 1017 = .ok (.invokevirtual 141, 3) := by decide +kernel
theorem dL_law_1020 : decode cL_law 1020 = .ok (.aload_n 2, 1) := by decide +kernel
theorem dL_law_1021 : decode cL_law 1021 = .ok (.invokevirtual 144, 3) := by decide +kernel
theorem dL_law_1024 : decode cL_law 1024 = .ok (.if_icmp .eq 28, 3) := by decide +kernel
theorem dL_law_1027 : decode cL_law 1027 = .ok (.iconst 0, 1) := by decide +kernel
theorem dL_law_1028 : decode cL_law 1028 = .ok (.ireturn, 1) := by decide +kernel
theorem dL_law_1029 : decode cL_law 1029 = .ok (.aload_n 1, 1) := by decide +kernel
theorem dL_law_1030 : decode cL_law 1030 = .ok (.aload_n 0, 1) := by decide +kernel
theorem dL_law_1031 : decode cL_law 1031 = .ok (.iload_n 3, 1) := by decide +kernel
theorem dL_law_1032 : decode cL_law 1032 = .ok (.iconst 1, 1) := by decide +kernel
theorem dL_law_1033 : decode cL_law 1033 = .ok (.iadd, 1) := by decide +kernel
theorem dL_law_1034 : decode cL_law 1034 = .ok (.iaload, 1) := by decide +kernel
theorem dL_law_1035 : decode cL_law 1035 = .ok (.invokevirtual 145, 3) := by decide +kernel
theorem dL_law_1038 : decode cL_law 1038 = .ok (.pop, 1) := by decide +kernel
theorem dL_law_1039 : decode cL_law 1039 = .ok (.aload_n 2, 1) := by decide +kernel
theorem dL_law_1040 : decode cL_law 1040 = .ok (.aload_n 0, 1) := by decide +kernel
theorem dL_law_1041 : decode cL_law 1041 = .ok (.iload_n 3, 1) := by decide +kernel
theorem dL_law_1042 : decode cL_law 1042 = .ok (.iconst 1, 1) := by decide +kernel
theorem dL_law_1043 : decode cL_law 1043 = .ok (.iadd, 1) := by decide +kernel
theorem dL_law_1044 : decode cL_law 1044 = .ok (.iaload, 1) := by decide +kernel
theorem dL_law_1045 : decode cL_law 1045 = .ok (.invokevirtual 148, 3) := by decide +kernel
theorem dL_law_1048 : decode cL_law 1048 = .ok (.pop, 1) := by decide +kernel
theorem dL_law_1049 : decode cL_law 1049 = .ok (.goto 3, 3) := by decide +kernel
theorem dL_law_1052 : decode cL_law 1052 = .ok (.iinc 3 5, 3) := by decide +kernel
theorem dL_law_1055 : decode cL_law 1055 = .ok (.goto (-1037), 3) := by decide +kernel
theorem dL_law_1058 : decode cL_law 1058 = .ok (.iconst 1, 1) := by decide +kernel
theorem dL_law_1059 : decode cL_law 1059 = .ok (.ireturn, 1) := by decide +kernel
