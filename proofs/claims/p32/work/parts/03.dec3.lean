theorem dX9_comesWalker_95 : decode cX9_comesWalker 95 = .ok (.getfield 40, 3) := by decide +kernel
theorem dX9_comesWalker_98 : decode cX9_comesWalker 98 = .ok (.aload_n 0, 1) := by decide +kernel
theorem dX9_comesWalker_99 : decode cX9_comesWalker 99 = .ok (.getfield 86, 3) := by decide +kernel
theorem dX9_comesWalker_102 : decode cX9_comesWalker 102 = .ok (.iconst 5, 1) := by decide +kernel
theorem dX9_comesWalker_103 : decode cX9_comesWalker 103 = .ok (.iastore, 1) := by decide +kernel
theorem dX9_comesWalker_104 : decode cX9_comesWalker 104 = .ok (.aload_n 0, 1) := by decide +kernel
theorem dX9_comesWalker_105 : decode cX9_comesWalker 105 = .ok (.dup, 1) := by decide +kernel
theorem dX9_comesWalker_106 : decode cX9_comesWalker 106 = .ok (.getfield 86, 3) := by decide +kernel
theorem dX9_comesWalker_109 : decode cX9_comesWalker 109 = .ok (.iconst 1, 1) := by decide +kernel
theorem dX9_comesWalker_110 : decode cX9_comesWalker 110 = .ok (.iadd, 1) := by decide +kernel
theorem dX9_comesWalker_111 : decode cX9_comesWalker 111 = .ok (.putfield 86, 3) := by decide +kernel
theorem dX9_comesWalker_114 : decode cX9_comesWalker 114 = .ok (.aload_n 0, 1) := by decide +kernel
theorem dX9_comesWalker_115 : decode cX9_comesWalker 115 = .ok (.iconst 0, 1) := by decide +kernel
theorem dX9_comesWalker_116 : decode cX9_comesWalker 116 = .ok (.putfield 89, 3) := by decide +kernel
theorem dX9_comesWalker_119 : decode cX9_comesWalker 119 = .ok (.return_, 1) := by decide +kernel
theorem dX9_chair_0 : decode cX9_chair 0 = .ok (.aload_n 0, 1) := by decide +kernel
theorem dX9_chair_1 : decode cX9_chair 1 = .ok (.iload_n 1, 1) := by decide +kernel
theorem dX9_chair_2 : decode cX9_chair 2 = .ok (.invokevirtual 92, 3) := by decide +kernel
theorem dX9_chair_5 : decode cX9_chair 5 = .ok (.ifCond .ne 9, 3) := by decide +kernel
theorem dX9_chair_8 : decode cX9_chair 8 = .ok (.aload_n 0, 1) := by decide +kernel
theorem dX9_chair_9 : decode cX9_chair 9 = .ok (.iconst (-1), 1) := by decide +kernel
theorem dX9_chair_10 : decode cX9_chair 10 = .ok (.invokevirtual 96, 3) := by decide +kernel
theorem dX9_chair_13 : decode cX9_chair 13 = .ok (.ireturn, 1) := by decide +kernel
theorem dX9_chair_14 : decode cX9_chair 14 = .ok (.aload_n 0, 1) := by decide +kernel
theorem dX9_chair_15 : decode cX9_chair 15 = .ok (.getfield 13, 3) := by decide +kernel
theorem dX9_chair_18 : decode cX9_chair 18 = .ok (.iload_n 1, 1) := by decide +kernel
theorem dX9_chair_19 : decode cX9_chair 19 = .ok (.iaload, 1) := by decide +kernel
theorem dX9_chair_20 : decode cX9_chair 20 = .ok (.iconst 1, 1) := by decide +kernel
theorem dX9_chair_21 : decode cX9_chair 21 = .ok (.if_icmp .ne 10, 3) := by decide +kernel
theorem dX9_chair_24 : decode cX9_chair 24 = .ok (.aload_n 0, 1) := by decide +kernel
theorem dX9_chair_25 : decode cX9_chair 25 = .ok (.bipush (-3), 2) := by decide +kernel
theorem dX9_chair_27 : decode cX9_chair 27 = .ok (.invokevirtual 96, 3) := by decide +kernel
theorem dX9_chair_30 : decode cX9_chair 30 = .ok (.ireturn, 1) := by decide +kernel
theorem dX9_chair_31 : decode cX9_chair 31 = .ok (.aload_n 0, 1) := by decide +kernel
theorem dX9_chair_32 : decode cX9_chair 32 = .ok (.invokevirtual 100, 3) := by decide +kernel
theorem dX9_chair_35 : decode cX9_chair 35 = .ok (.bipush 11, 2) := by decide +kernel
theorem dX9_chair_37 : decode cX9_chair 37 = .ok (.if_icmp .ne 10, 3) := by decide +kernel
theorem dX9_chair_40 : decode cX9_chair 40 = .ok (.aload_n 0, 1) := by decide +kernel
theorem dX9_chair_41 : decode cX9_chair 41 = .ok (.bipush (-6), 2) := by decide +kernel
theorem dX9_chair_43 : decode cX9_chair 43 = .ok (.invokevirtual 96, 3) := by decide +kernel
theorem dX9_chair_46 : decode cX9_chair 46 = .ok (.ireturn, 1) := by decide +kernel
theorem dX9_chair_47 : decode cX9_chair 47 = .ok (.aload_n 0, 1) := by decide +kernel
theorem dX9_chair_48 : decode cX9_chair 48 = .ok (.iload_n 1, 1) := by decide +kernel
theorem dX9_chair_49 : decode cX9_chair 49 = .ok (.invokevirtual 104, 3) := by decide +kernel
theorem dX9_chair_52 : decode cX9_chair 52 = .ok (.aload_n 0, 1) := by decide +kernel
theorem dX9_chair_53 : decode cX9_chair 53 = .ok (.invokevirtual 100, 3) := by decide +kernel
theorem dX9_chair_56 : decode cX9_chair 56 = .ok (.ireturn, 1) := by decide +kernel
theorem dX9_walker_0 : decode cX9_walker 0 = .ok (.aload_n 0, 1) := by decide +kernel
theorem dX9_walker_1 : decode cX9_walker 1 = .ok (.iload_n 1, 1) := by decide +kernel
theorem dX9_walker_2 : decode cX9_walker 2 = .ok (.invokevirtual 92, 3) := by decide +kernel
theorem dX9_walker_5 : decode cX9_walker 5 = .ok (.ifCond .eq 13, 3) := by decide +kernel
theorem dX9_walker_8 : decode cX9_walker 8 = .ok (.iload_n 2, 1) := by decide +kernel
theorem dX9_walker_9 : decode cX9_walker 9 = .ok (.iconst 0, 1) := by decide +kernel
theorem dX9_walker_10 : decode cX9_walker 10 = .ok (.bipush 6, 2) := by decide +kernel
theorem dX9_walker_12 : decode cX9_walker 12 = .ok (.invokestatic 108, 3) := by decide +kernel
theorem dX9_walker_15 : decode cX9_walker 15 = .ok (.ifCond .ne 9, 3) := by decide +kernel
theorem dX9_walker_18 : decode cX9_walker 18 = .ok (.aload_n 0, 1) := by decide +kernel
theorem dX9_walker_19 : decode cX9_walker 19 = .ok (.iconst (-1), 1) := by decide +kernel
theorem dX9_walker_20 : decode cX9_walker 20 = .ok (.invokevirtual 96, 3) := by decide +kernel
theorem dX9_walker_23 : decode cX9_walker 23 = .ok (.ireturn, 1) := by decide +kernel
theorem dX9_walker_24 : decode cX9_walker 24 = .ok (.iload_n 3, 1) := by decide +kernel
theorem dX9_walker_25 : decode cX9_walker 25 = .ok (.iconst 1, 1) := by decide +kernel
theorem dX9_walker_26 : decode cX9_walker 26 = .ok (.bipush 99, 2) := by decide +kernel
theorem dX9_walker_28 : decode cX9_walker 28 = .ok (.invokestatic 112, 3) := by decide +kernel
theorem dX9_walker_31 : decode cX9_walker 31 = .ok (.istore 4, 2) := by decide +kernel
theorem dX9_walker_33 : decode cX9_walker 33 = .ok (.iload 4, 2) := by decide +kernel
theorem dX9_walker_35 : decode cX9_walker 35 = .ok (.ifCond .ne 16, 3) := by decide +kernel
theorem dX9_walker_38 : decode cX9_walker 38 = .ok (.aload_n 0, 1) := by decide +kernel
theorem dX9_walker_39 : decode cX9_walker 39 = .ok (.getfield 86, 3) := by decide +kernel
theorem dX9_walker_42 : decode cX9_walker 42 = .ok (.bipush 12, 2) := by decide +kernel
theorem dX9_walker_44 : decode cX9_walker 44 = .ok (.if_icmp .ne 7, 3) := by decide +kernel
theorem dX9_walker_47 : decode cX9_walker 47 = .ok (.bipush (-6), 2) := by decide +kernel
theorem dX9_walker_49 : decode cX9_walker 49 = .ok (.istore 4, 2) := by decide +kernel
theorem dX9_walker_51 : decode cX9_walker 51 = .ok (.iload 4, 2) := by decide +kernel
theorem dX9_walker_53 : decode cX9_walker 53 = .ok (.ifCond .ne 15, 3) := by decide +kernel
theorem dX9_walker_56 : decode cX9_walker 56 = .ok (.aload_n 0, 1) := by decide +kernel
theorem dX9_walker_57 : decode cX9_walker 57 = .ok (.iload_n 1, 1) := by decide +kernel
theorem dX9_walker_58 : decode cX9_walker 58 = .ok (.invokevirtual 116, 3) := by decide +kernel
theorem dX9_walker_61 : decode cX9_walker 61 = .ok (.ifCond .eq 7, 3) := by decide +kernel
theorem dX9_walker_64 : decode cX9_walker 64 = .ok (.bipush (-3), 2) := by decide +kernel
theorem dX9_walker_66 : decode cX9_walker 66 = .ok (.istore 4, 2) := by decide +kernel
theorem dX9_walker_68 : decode cX9_walker 68 = .ok (.iload 4, 2) := by decide +kernel
theorem dX9_walker_70 : decode cX9_walker 70 = .ok (.ifCond .eq 10, 3) := by decide +kernel
theorem dX9_walker_73 : decode cX9_walker 73 = .ok (.aload_n 0, 1) := by decide +kernel
theorem dX9_walker_74 : decode cX9_walker 74 = .ok (.iload 4, 2) := by decide +kernel
theorem dX9_walker_76 : decode cX9_walker 76 = .ok (.invokevirtual 96, 3) := by decide +kernel
theorem dX9_walker_79 : decode cX9_walker 79 = .ok (.ireturn, 1) := by decide +kernel
theorem dX9_walker_80 : decode cX9_walker 80 = .ok (.aload_n 0, 1) := by decide +kernel
theorem dX9_walker_81 : decode cX9_walker 81 = .ok (.iload_n 1, 1) := by decide +kernel
theorem dX9_walker_82 : decode cX9_walker 82 = .ok (.iload_n 2, 1) := by decide +kernel
theorem dX9_walker_83 : decode cX9_walker 83 = .ok (.iload_n 3, 1) := by decide +kernel
theorem dX9_walker_84 : decode cX9_walker 84 = .ok (.invokevirtual 119, 3) := by decide +kernel
theorem dX9_walker_87 : decode cX9_walker 87 = .ok (.aload_n 0, 1) := by decide +kernel
theorem dX9_walker_88 : decode cX9_walker 88 = .ok (.getfield 86, 3) := by decide +kernel
theorem dX9_walker_91 : decode cX9_walker 91 = .ok (.iconst 1, 1) := by decide +kernel
theorem dX9_walker_92 : decode cX9_walker 92 = .ok (.isub, 1) := by decide +kernel
theorem dX9_walker_93 : decode cX9_walker 93 = .ok (.ireturn, 1) := by decide +kernel
theorem dX9_set_0 : decode cX9_set 0 = .ok (.aload_n 0, 1) := by decide +kernel
theorem dX9_set_1 : decode cX9_set 1 = .ok (.iload_n 1, 1) := by decide +kernel
theorem dX9_set_2 : decode cX9_set 2 = .ok (.invokevirtual 123, 3) := by decide +kernel
theorem dX9_set_5 : decode cX9_set 5 = .ok (.ifCond .ne 9, 3) := by decide +kernel
theorem dX9_set_8 : decode cX9_set 8 = .ok (.aload_n 0, 1) := by decide +kernel
theorem dX9_set_9 : decode cX9_set 9 = .ok (.iconst (-1), 1) := by decide +kernel
theorem dX9_set_10 : decode cX9_set 10 = .ok (.invokevirtual 96, 3) := by decide +kernel
theorem dX9_set_13 : decode cX9_set 13 = .ok (.ireturn, 1) := by decide +kernel
theorem dX9_set_14 : decode cX9_set 14 = .ok (.iload_n 2, 1) := by decide +kernel
theorem dX9_set_15 : decode cX9_set 15 = .ok (.iconst 0, 1) := by decide +kernel
theorem dX9_set_16 : decode cX9_set 16 = .ok (.iconst 5, 1) := by decide +kernel
theorem dX9_set_17 : decode cX9_set 17 = .ok (.invokestatic 108, 3) := by decide +kernel
theorem dX9_set_20 : decode cX9_set 20 = .ok (.ifCond .ne 10, 3) := by decide +kernel
theorem dX9_set_23 : decode cX9_set 23 = .ok (.aload_n 0, 1) := by decide +kernel
theorem dX9_set_24 : decode cX9_set 24 = .ok (.bipush (-2), 2) := by decide +kernel
theorem dX9_set_26 : decode cX9_set 26 = .ok (.invokevirtual 96, 3) := by decide +kernel
theorem dX9_set_29 : decode cX9_set 29 = .ok (.ireturn, 1) := by decide +kernel
theorem dX9_set_30 : decode cX9_set 30 = .ok (.iload_n 2, 1) := by decide +kernel
theorem dX9_set_31 : decode cX9_set 31 = .ok (.iconst 2, 1) := by decide +kernel
theorem dX9_set_32 : decode cX9_set 32 = .ok (.if_icmp .ge 13, 3) := by decide +kernel
theorem dX9_set_35 : decode cX9_set 35 = .ok (.iload_n 3, 1) := by decide +kernel
theorem dX9_set_36 : decode cX9_set 36 = .ok (.iconst 1, 1) := by decide +kernel
theorem dX9_set_37 : decode cX9_set 37 = .ok (.bipush 99, 2) := by decide +kernel
theorem dX9_set_39 : decode cX9_set 39 = .ok (.invokestatic 112, 3) := by decide +kernel
theorem dX9_set_42 : decode cX9_set 42 = .ok (.goto 20, 3) := by decide +kernel
theorem dX9_set_45 : decode cX9_set 45 = .ok (.iload_n 3, 1) := by decide +kernel
theorem dX9_set_46 : decode cX9_set 46 = .ok (.iconst 0, 1) := by decide +kernel
theorem dX9_set_47 : decode cX9_set 47 = .ok (.iload_n 2, 1) := by decide +kernel
theorem dX9_set_48 : decode cX9_set 48 = .ok (.iconst 5, 1) := by decide +kernel
theorem dX9_set_49 : decode cX9_set 49 = .ok (.if_icmp .ne 8, 3) := by decide +kernel
theorem dX9_set_52 : decode cX9_set 52 = .ok (.bipush 6, 2) := by decide +kernel
theorem dX9_set_54 : decode cX9_set 54 = .ok (.goto 5, 3) := by decide +kernel
theorem dX9_set_57 : decode cX9_set 57 = .ok (.bipush 9, 2) := by decide +kernel
theorem dX9_set_59 : decode cX9_set 59 = .ok (.invokestatic 112, 3) := by decide +kernel
theorem dX9_set_62 : decode cX9_set 62 = .ok (.istore 4, 2) := by decide +kernel
theorem dX9_set_64 : decode cX9_set 64 = .ok (.iload 4, 2) := by decide +kernel
theorem dX9_set_66 : decode cX9_set 66 = .ok (.ifCond .eq 10, 3) := by decide +kernel
theorem dX9_set_69 : decode cX9_set 69 = .ok (.aload_n 0, 1) := by decide +kernel
theorem dX9_set_70 : decode cX9_set 70 = .ok (.iload 4, 2) := by decide +kernel
theorem dX9_set_72 : decode cX9_set 72 = .ok (.invokevirtual 96, 3) := by decide +kernel
theorem dX9_set_75 : decode cX9_set 75 = .ok (.ireturn, 1) := by decide +kernel
theorem dX9_set_76 : decode cX9_set 76 = .ok (.iload_n 2, 1) := by decide +kernel
theorem dX9_set_77 : decode cX9_set 77 = .ok (.ifCond .ne 10, 3) := by decide +kernel
theorem dX9_set_80 : decode cX9_set 80 = .ok (.aload_n 0, 1) := by decide +kernel
theorem dX9_set_81 : decode cX9_set 81 = .ok (.getfield 28, 3) := by decide +kernel
theorem dX9_set_84 : decode cX9_set 84 = .ok (.goto 55, 3) := by decide +kernel
theorem dX9_set_87 : decode cX9_set 87 = .ok (.iload_n 2, 1) := by decide +kernel
theorem dX9_set_88 : decode cX9_set 88 = .ok (.iconst 1, 1) := by decide +kernel
theorem dX9_set_89 : decode cX9_set 89 = .ok (.if_icmp .ne 10, 3) := by decide +kernel
theorem dX9_set_92 : decode cX9_set 92 = .ok (.aload_n 0, 1) := by decide +kernel
theorem dX9_set_93 : decode cX9_set 93 = .ok (.getfield 31, 3) := by decide +kernel
theorem dX9_set_96 : decode cX9_set 96 = .ok (.goto 43, 3) := by decide +kernel
theorem dX9_set_99 : decode cX9_set 99 = .ok (.iload_n 2, 1) := by decide +kernel
theorem dX9_set_100 : decode cX9_set 100 = .ok (.iconst 2, 1) := by decide +kernel
theorem dX9_set_101 : decode cX9_set 101 = .ok (.if_icmp .ne 10, 3) := by decide +kernel
theorem dX9_set_104 : decode cX9_set 104 = .ok (.aload_n 0, 1) := by decide +kernel
theorem dX9_set_105 : decode cX9_set 105 = .ok (.getfield 34, 3) := by decide +kernel
theorem dX9_set_108 : decode cX9_set 108 = .ok (.goto 31, 3) := by decide +kernel
theorem dX9_set_111 : decode cX9_set 111 = .ok (.iload_n 2, 1) := by decide +kernel
theorem dX9_set_112 : decode cX9_set 112 = .ok (.iconst 3, 1) := by decide +kernel
theorem dX9_set_113 : decode cX9_set 113 = .ok (.if_icmp .ne 10, 3) := by decide +kernel
theorem dX9_set_116 : decode cX9_set 116 = .ok (.aload_n 0, 1) := by decide +kernel
theorem dX9_set_117 : decode cX9_set 117 = .ok (.getfield 37, 3) := by decide +kernel
theorem dX9_set_120 : decode cX9_set 120 = .ok (.goto 19, 3) := by decide +kernel
theorem dX9_set_123 : decode cX9_set 123 = .ok (.iload_n 2, 1) := by decide +kernel
theorem dX9_set_124 : decode cX9_set 124 = .ok (.iconst 4, 1) := by decide +kernel
theorem dX9_set_125 : decode cX9_set 125 = .ok (.if_icmp .ne 10, 3) := by decide +kernel
theorem dX9_set_128 : decode cX9_set 128 = .ok (.aload_n 0, 1) := by decide +kernel
theorem dX9_set_129 : decode cX9_set 129 = .ok (.getfield 40, 3) := by decide +kernel
theorem dX9_set_132 : decode cX9_set 132 = .ok (.goto 7, 3) := by decide +kernel
theorem dX9_set_135 : decode cX9_set 135 = .ok (.aload_n 0, 1) := by decide +kernel
theorem dX9_set_136 : decode cX9_set 136 = .ok (.getfield 25, 3) := by decide +kernel
theorem dX9_set_139 : decode cX9_set 139 = .ok (.astore 5, 2) := by decide +kernel
theorem dX9_set_141 : decode cX9_set 141 = .ok (.aload 5, 2) := by decide +kernel
theorem dX9_set_143 : decode cX9_set 143 = .ok (.iload_n 1, 1) := by decide +kernel
theorem dX9_set_144 : decode cX9_set 144 = .ok (.iaload, 1) := by decide +kernel
theorem dX9_set_145 : decode cX9_set 145 = .ok (.istore 6, 2) := by decide +kernel
theorem dX9_set_147 : decode cX9_set 147 = .ok (.aload 5, 2) := by decide +kernel
theorem dX9_set_149 : decode cX9_set 149 = .ok (.iload_n 1, 1) := by decide +kernel
theorem dX9_set_150 : decode cX9_set 150 = .ok (.iload_n 3, 1) := by decide +kernel
theorem dX9_set_151 : decode cX9_set 151 = .ok (.iastore, 1) := by decide +kernel
theorem dX9_set_152 : decode cX9_set 152 = .ok (.iload 6, 2) := by decide +kernel
theorem dX9_set_154 : decode cX9_set 154 = .ok (.ireturn, 1) := by decide +kernel
theorem dX9_player_0 : decode cX9_player 0 = .ok (.iload_n 1, 1) := by decide +kernel
theorem dX9_player_1 : decode cX9_player 1 = .ok (.iconst 0, 1) := by decide +kernel
theorem dX9_player_2 : decode cX9_player 2 = .ok (.iconst 4, 1) := by decide +kernel
theorem dX9_player_3 : decode cX9_player 3 = .ok (.invokestatic 108, 3) := by decide +kernel
theorem dX9_player_6 : decode cX9_player 6 = .ok (.ifCond .ne 9, 3) := by decide +kernel
theorem dX9_player_9 : decode cX9_player 9 = .ok (.aload_n 0, 1) := by decide +kernel
theorem dX9_player_10 : decode cX9_player 10 = .ok (.iconst (-1), 1) := by decide +kernel
theorem dX9_player_11 : decode cX9_player 11 = .ok (.invokevirtual 96, 3) := by decide +kernel
theorem dX9_player_14 : decode cX9_player 14 = .ok (.ireturn, 1) := by decide +kernel
theorem dX9_player_15 : decode cX9_player 15 = .ok (.iload_n 2, 1) := by decide +kernel
theorem dX9_player_16 : decode cX9_player 16 = .ok (.iconst 1, 1) := by decide +kernel
theorem dX9_player_17 : decode cX9_player 17 = .ok (.bipush 99, 2) := by decide +kernel
theorem dX9_player_19 : decode cX9_player 19 = .ok (.invokestatic 112, 3) := by decide +kernel
theorem dX9_player_22 : decode cX9_player 22 = .ok (.istore_n 3, 1) := by decide +kernel
theorem dX9_player_23 : decode cX9_player 23 = .ok (.iload_n 3, 1) := by decide +kernel
theorem dX9_player_24 : decode cX9_player 24 = .ok (.ifCond .eq 9, 3) := by decide +kernel
theorem dX9_player_27 : decode cX9_player 27 = .ok (.aload_n 0, 1) := by decide +kernel
theorem dX9_player_28 : decode cX9_player 28 = .ok (.iload_n 3, 1) := by decide +kernel
theorem dX9_player_29 : decode cX9_player 29 = .ok (.invokevirtual 96, 3) := by decide +kernel
theorem dX9_player_32 : decode cX9_player 32 = .ok (.ireturn, 1) := by decide +kernel
theorem dX9_player_33 : decode cX9_player 33 = .ok (.aload_n 0, 1) := by decide +kernel
theorem dX9_player_34 : decode cX9_player 34 = .ok (.getfield 126, 3) := by decide +kernel
theorem dX9_player_37 : decode cX9_player 37 = .ok (.istore 4, 2) := by decide +kernel
theorem dX9_player_39 : decode cX9_player 39 = .ok (.aload_n 0, 1) := by decide +kernel
theorem dX9_player_40 : decode cX9_player 40 = .ok (.iload_n 1, 1) := by decide +kernel
theorem dX9_player_41 : decode cX9_player 41 = .ok (.putfield 126, 3) := by decide +kernel
theorem dX9_player_44 : decode cX9_player 44 = .ok (.aload_n 0, 1) := by decide +kernel
theorem dX9_player_45 : decode cX9_player 45 = .ok (.iload_n 2, 1) := by decide +kernel
theorem dX9_player_46 : decode cX9_player 46 = .ok (.putfield 47, 3) := by decide +kernel
theorem dX9_player_49 : decode cX9_player 49 = .ok (.iload 4, 2) := by decide +kernel
theorem dX9_player_51 : decode cX9_player 51 = .ok (.ireturn, 1) := by decide +kernel
theorem dX9_form_0 : decode cX9_form 0 = .ok (.iload_n 1, 1) := by decide +kernel
theorem dX9_form_1 : decode cX9_form 1 = .ok (.iconst 0, 1) := by decide +kernel
theorem dX9_form_2 : decode cX9_form 2 = .ok (.iconst 2, 1) := by decide +kernel
theorem dX9_form_3 : decode cX9_form 3 = .ok (.invokestatic 112, 3) := by decide +kernel
theorem dX9_form_6 : decode cX9_form 6 = .ok (.istore_n 2, 1) := by decide +kernel
theorem dX9_form_7 : decode cX9_form 7 = .ok (.iload_n 2, 1) := by decide +kernel
theorem dX9_form_8 : decode cX9_form 8 = .ok (.ifCond .eq 9, 3) := by decide +kernel
theorem dX9_form_11 : decode cX9_form 11 = .ok (.aload_n 0, 1) := by decide +kernel
theorem dX9_form_12 : decode cX9_form 12 = .ok (.iload_n 2, 1) := by decide +kernel
theorem dX9_form_13 : decode cX9_form 13 = .ok (.invokevirtual 96, 3) := by decide +kernel
theorem dX9_form_16 : decode cX9_form 16 = .ok (.ireturn, 1) := by decide +kernel
theorem dX9_form_17 : decode cX9_form 17 = .ok (.aload_n 0, 1) := by decide +kernel
theorem dX9_form_18 : decode cX9_form 18 = .ok (.getfield 129, 3) := by decide +kernel
theorem dX9_form_21 : decode cX9_form 21 = .ok (.istore_n 3, 1) := by decide +kernel
theorem dX9_form_22 : decode cX9_form 22 = .ok (.aload_n 0, 1) := by decide +kernel
theorem dX9_form_23 : decode cX9_form 23 = .ok (.iload_n 1, 1) := by decide +kernel
theorem dX9_form_24 : decode cX9_form 24 = .ok (.putfield 129, 3) := by decide +kernel
theorem dX9_form_27 : decode cX9_form 27 = .ok (.iload_n 3, 1) := by decide +kernel
theorem dX9_form_28 : decode cX9_form 28 = .ok (.ireturn, 1) := by decide +kernel
theorem dX9_seed_0 : decode cX9_seed 0 = .ok (.aload_n 0, 1) := by decide +kernel
theorem dX9_seed_1 : decode cX9_seed 1 = .ok (.getfield 50, 3) := by decide +kernel
theorem dX9_seed_4 : decode cX9_seed 4 = .ok (.istore_n 2, 1) := by decide +kernel
theorem dX9_seed_5 : decode cX9_seed 5 = .ok (.aload_n 0, 1) := by decide +kernel
theorem dX9_seed_6 : decode cX9_seed 6 = .ok (.iload_n 1, 1) := by decide +kernel
theorem dX9_seed_7 : decode cX9_seed 7 = .ok (.putfield 50, 3) := by decide +kernel
theorem dX9_seed_10 : decode cX9_seed 10 = .ok (.iload_n 2, 1) := by decide +kernel
theorem dX9_seed_11 : decode cX9_seed 11 = .ok (.ireturn, 1) := by decide +kernel
theorem dX9_of_0 : decode cX9_of 0 = .ok (.aload_n 0, 1) := by decide +kernel
theorem dX9_of_1 : decode cX9_of 1 = .ok (.iload_n 1, 1) := by decide +kernel
theorem dX9_of_2 : decode cX9_of 2 = .ok (.invokevirtual 123, 3) := by decide +kernel
theorem dX9_of_5 : decode cX9_of 5 = .ok (.ifCond .ne 9, 3) := by decide +kernel
theorem dX9_of_8 : decode cX9_of 8 = .ok (.aload_n 0, 1) := by decide +kernel
theorem dX9_of_9 : decode cX9_of 9 = .ok (.iconst (-1), 1) := by decide +kernel
theorem dX9_of_10 : decode cX9_of 10 = .ok (.invokevirtual 96, 3) := by decide +kernel
theorem dX9_of_13 : decode cX9_of 13 = .ok (.ireturn, 1) := by decide +kernel
theorem dX9_of_14 : decode cX9_of 14 = .ok (.iload_n 2, 1) := by decide +kernel
theorem dX9_of_15 : decode cX9_of 15 = .ok (.tableswitch 79 0 5 #[37, 44, 51, 58, 65, 72], 37) := by decide +kernel
theorem dX9_of_52 : decode cX9_of 52 = .ok (.aload_n 0, 1) := by decide +kernel
theorem dX9_of_53 : decode cX9_of 53 = .ok (.getfield 16, 3) := by decide +kernel
theorem dX9_of_56 : decode cX9_of 56 = .ok (.iload_n 1, 1) := by decide +kernel
theorem dX9_of_57 : decode cX9_of 57 = .ok (.iaload, 1) := by decide +kernel
theorem dX9_of_58 : decode cX9_of 58 = .ok (.ireturn, 1) := by decide +kernel
theorem dX9_of_59 : decode cX9_of 59 = .ok (.aload_n 0, 1) := by decide +kernel
theorem dX9_of_60 : decode cX9_of 60 = .ok (.getfield 19, 3) := by decide +kernel
theorem dX9_of_63 : decode cX9_of 63 = .ok (.iload_n 1, 1) := by decide +kernel
theorem dX9_of_64 : decode cX9_of 64 = .ok (.iaload, 1) := by decide +kernel
theorem dX9_of_65 : decode cX9_of 65 = .ok (.ireturn, 1) := by decide +kernel
theorem dX9_of_66 : decode cX9_of 66 = .ok (.aload_n 0, 1) := by decide +kernel
theorem dX9_of_67 : decode cX9_of 67 = .ok (.getfield 22, 3) := by decide +kernel
theorem dX9_of_70 : decode cX9_of 70 = .ok (.iload_n 1, 1) := by decide +kernel
theorem dX9_of_71 : decode cX9_of 71 = .ok (.iaload, 1) := by decide +kernel
theorem dX9_of_72 : decode cX9_of 72 = .ok (.ireturn, 1) := by decide +kernel
theorem dX9_of_73 : decode cX9_of 73 = .ok (.aload_n 0, 1) := by decide +kernel
theorem dX9_of_74 : decode cX9_of 74 = .ok (.getfield 25, 3) := by decide +kernel
theorem dX9_of_77 : decode cX9_of 77 = .ok (.iload_n 1, 1) := by decide +kernel
theorem dX9_of_78 : decode cX9_of 78 = .ok (.iaload, 1) := by decide +kernel
theorem dX9_of_79 : decode cX9_of 79 = .ok (.ireturn, 1) := by decide +kernel
theorem dX9_of_80 : decode cX9_of 80 = .ok (.aload_n 0, 1) := by decide +kernel
theorem dX9_of_81 : decode cX9_of 81 = .ok (.getfield 28, 3) := by decide +kernel
theorem dX9_of_84 : decode cX9_of 84 = .ok (.iload_n 1, 1) := by decide +kernel
theorem dX9_of_85 : decode cX9_of 85 = .ok (.iaload, 1) := by decide +kernel
theorem dX9_of_86 : decode cX9_of 86 = .ok (.ireturn, 1) := by decide +kernel
theorem dX9_of_87 : decode cX9_of 87 = .ok (.aload_n 0, 1) := by decide +kernel
theorem dX9_of_88 : decode cX9_of 88 = .ok (.getfield 31, 3) := by decide +kernel
theorem dX9_of_91 : decode cX9_of 91 = .ok (.iload_n 1, 1) := by decide +kernel
theorem dX9_of_92 : decode cX9_of 92 = .ok (.iaload, 1) := by decide +kernel
theorem dX9_of_93 : decode cX9_of 93 = .ok (.ireturn, 1) := by decide +kernel
theorem dX9_of_94 : decode cX9_of 94 = .ok (.aload_n 0, 1) := by decide +kernel
theorem dX9_of_95 : decode cX9_of 95 = .ok (.bipush (-2), 2) := by decide +kernel
theorem dX9_of_97 : decode cX9_of 97 = .ok (.invokevirtual 96, 3) := by decide +kernel
theorem dX9_of_100 : decode cX9_of 100 = .ok (.ireturn, 1) := by decide +kernel
theorem dX9_has_0 : decode cX9_has 0 = .ok (.aload_n 0, 1) := by decide +kernel
theorem dX9_has_1 : decode cX9_has 1 = .ok (.iload_n 1, 1) := by decide +kernel
theorem dX9_has_2 : decode cX9_has 2 = .ok (.invokevirtual 92, 3) := by decide +kernel
theorem dX9_has_5 : decode cX9_has 5 = .ok (.ifCond .eq 12, 3) := by decide +kernel
theorem dX9_has_8 : decode cX9_has 8 = .ok (.aload_n 0, 1) := by decide +kernel
theorem dX9_has_9 : decode cX9_has 9 = .ok (.getfield 13, 3) := by decide +kernel
theorem dX9_has_12 : decode cX9_has 12 = .ok (.iload_n 1, 1) := by decide +kernel
theorem dX9_has_13 : decode cX9_has 13 = .ok (.iaload, 1) := by decide +kernel
theorem dX9_has_14 : decode cX9_has 14 = .ok (.goto 8, 3) := by decide +kernel
theorem dX9_has_17 : decode cX9_has 17 = .ok (.aload_n 0, 1) := by decide +kernel
theorem dX9_has_18 : decode cX9_has 18 = .ok (.iconst (-1), 1) := by decide +kernel
theorem dX9_has_19 : decode cX9_has 19 = .ok (.invokevirtual 96, 3) := by decide +kernel
theorem dX9_has_22 : decode cX9_has 22 = .ok (.ireturn, 1) := by decide +kernel
theorem dX9_hasteOf_0 : decode cX9_hasteOf 0 = .ok (.aload_n 0, 1) := by decide +kernel
theorem dX9_hasteOf_1 : decode cX9_hasteOf 1 = .ok (.aload_n 0, 1) := by decide +kernel
theorem dX9_hasteOf_2 : decode cX9_hasteOf 2 = .ok (.getfield 16, 3) := by decide +kernel
theorem dX9_hasteOf_5 : decode cX9_hasteOf 5 = .ok (.iload_n 1, 1) := by decide +kernel
theorem dX9_hasteOf_6 : decode cX9_hasteOf 6 = .ok (.iaload, 1) := by decide +kernel
theorem dX9_hasteOf_7 : decode cX9_hasteOf 7 = .ok (.iload_n 2, 1) := by decide +kernel
theorem dX9_hasteOf_8 : decode cX9_hasteOf 8 = .ok (.invokevirtual 132, 3) := by decide +kernel
theorem dX9_hasteOf_11 : decode cX9_hasteOf 11 = .ok (.bipush 100, 2) := by decide +kernel
theorem dX9_hasteOf_13 : decode cX9_hasteOf 13 = .ok (.imul, 1) := by decide +kernel
theorem dX9_hasteOf_14 : decode cX9_hasteOf 14 = .ok (.aload_n 0, 1) := by decide +kernel
theorem dX9_hasteOf_15 : decode cX9_hasteOf 15 = .ok (.getfield 28, 3) := by decide +kernel
theorem dX9_hasteOf_18 : decode cX9_hasteOf 18 = .ok (.iload_n 1, 1) := by decide +kernel
theorem dX9_hasteOf_19 : decode cX9_hasteOf 19 = .ok (.iaload, 1) := by decide +kernel
theorem dX9_hasteOf_20 : decode cX9_hasteOf 20 = .ok (.idiv, 1) := by decide +kernel
theorem dX9_hasteOf_21 : decode cX9_hasteOf 21 = .ok (.istore_n 3, 1) := by decide +kernel
theorem dX9_hasteOf_22 : decode cX9_hasteOf 22 = .ok (.iload_n 3, 1) := by decide +kernel
theorem dX9_hasteOf_23 : decode cX9_hasteOf 23 = .ok (.istore 4, 2) := by decide +kernel
theorem dX9_hasteOf_25 : decode cX9_hasteOf 25 = .ok (.aload_n 0, 1) := by decide +kernel
theorem dX9_hasteOf_26 : decode cX9_hasteOf 26 = .ok (.getfield 25, 3) := by decide +kernel
theorem dX9_hasteOf_29 : decode cX9_hasteOf 29 = .ok (.iload_n 1, 1) := by decide +kernel
theorem dX9_hasteOf_30 : decode cX9_hasteOf 30 = .ok (.iaload, 1) := by decide +kernel
theorem dX9_hasteOf_31 : decode cX9_hasteOf 31 = .ok (.tableswitch 129 1 6 #[37, 50, 63, 86, 94, 109], 37) := by decide +kernel
theorem dX9_hasteOf_68 : decode cX9_hasteOf 68 = .ok (.iload_n 3, 1) := by decide +kernel
theorem dX9_hasteOf_69 : decode cX9_hasteOf 69 = .ok (.aload_n 0, 1) := by decide +kernel
theorem dX9_hasteOf_70 : decode cX9_hasteOf 70 = .ok (.getfield 37, 3) := by decide +kernel
theorem dX9_hasteOf_73 : decode cX9_hasteOf 73 = .ok (.iload_n 1, 1) := by decide +kernel
theorem dX9_hasteOf_74 : decode cX9_hasteOf 74 = .ok (.iaload, 1) := by decide +kernel
theorem dX9_hasteOf_75 : decode cX9_hasteOf 75 = .ok (.isub, 1) := by decide +kernel
theorem dX9_hasteOf_76 : decode cX9_hasteOf 76 = .ok (.istore 4, 2) := by decide +kernel
theorem dX9_hasteOf_78 : decode cX9_hasteOf 78 = .ok (.goto 82, 3) := by decide +kernel
theorem dX9_hasteOf_81 : decode cX9_hasteOf 81 = .ok (.iload_n 3, 1) := by decide +kernel
theorem dX9_hasteOf_82 : decode cX9_hasteOf 82 = .ok (.aload_n 0, 1) := by decide +kernel
theorem dX9_hasteOf_83 : decode cX9_hasteOf 83 = .ok (.getfield 37, 3) := by decide +kernel
theorem dX9_hasteOf_86 : decode cX9_hasteOf 86 = .ok (.iload_n 1, 1) := by decide +kernel
theorem dX9_hasteOf_87 : decode cX9_hasteOf 87 = .ok (.iaload, 1) := by decide +kernel
theorem dX9_hasteOf_88 : decode cX9_hasteOf 88 = .ok (.iadd, 1) := by decide +kernel
theorem dX9_hasteOf_89 : decode cX9_hasteOf 89 = .ok (.istore 4, 2) := by decide +kernel
theorem dX9_hasteOf_91 : decode cX9_hasteOf 91 = .ok (.goto 69, 3) := by decide +kernel
theorem dX9_hasteOf_94 : decode cX9_hasteOf 94 = .ok (.iload_n 3, 1) := by decide +kernel
theorem dX9_hasteOf_95 : decode cX9_hasteOf 95 = .ok (.aload_n 0, 1) := by decide +kernel
theorem dX9_hasteOf_96 : decode cX9_hasteOf 96 = .ok (.getfield 37, 3) := by decide +kernel
theorem dX9_hasteOf_99 : decode cX9_hasteOf 99 = .ok (.iload_n 1, 1) := by decide +kernel
theorem dX9_hasteOf_100 : decode cX9_hasteOf 100 = .ok (.iaload, 1) := by decide +kernel
theorem dX9_hasteOf_101 : decode cX9_hasteOf 101 = .ok (.isub, 1) := by decide +kernel
theorem dX9_hasteOf_102 : decode cX9_hasteOf 102 = .ok (.bipush 9, 2) := by decide +kernel
theorem dX9_hasteOf_104 : decode cX9_hasteOf 104 = .ok (.aload_n 0, 1) := by decide +kernel
theorem dX9_hasteOf_105 : decode cX9_hasteOf 105 = .ok (.getfield 40, 3) := by decide +kernel
theorem dX9_hasteOf_108 : decode cX9_hasteOf 108 = .ok (.iload_n 1, 1) := by decide +kernel
theorem dX9_hasteOf_109 : decode cX9_hasteOf 109 = .ok (.iaload, 1) := by decide +kernel
theorem dX9_hasteOf_110 : decode cX9_hasteOf 110 = .ok (.isub, 1) := by decide +kernel
theorem dX9_hasteOf_111 : decode cX9_hasteOf 111 = .ok (.isub, 1) := by decide +kernel
theorem dX9_hasteOf_112 : decode cX9_hasteOf 112 = .ok (.istore 4, 2) := by decide +kernel
theorem dX9_hasteOf_114 : decode cX9_hasteOf 114 = .ok (.goto 46, 3) := by decide +kernel
theorem dX9_hasteOf_117 : decode cX9_hasteOf 117 = .ok (.iconst 2, 1) := by decide +kernel
theorem dX9_hasteOf_118 : decode cX9_hasteOf 118 = .ok (.iload_n 3, 1) := by decide +kernel
theorem dX9_hasteOf_119 : decode cX9_hasteOf 119 = .ok (.imul, 1) := by decide +kernel
theorem dX9_hasteOf_120 : decode cX9_hasteOf 120 = .ok (.istore 4, 2) := by decide +kernel
theorem dX9_hasteOf_122 : decode cX9_hasteOf 122 = .ok (.goto 38, 3) := by decide +kernel
theorem dX9_hasteOf_125 : decode cX9_hasteOf 125 = .ok (.iload_n 3, 1) := by decide +kernel
theorem dX9_hasteOf_126 : decode cX9_hasteOf 126 = .ok (.aload_n 0, 1) := by decide +kernel
theorem dX9_hasteOf_127 : decode cX9_hasteOf 127 = .ok (.getfield 37, 3) := by decide +kernel
theorem dX9_hasteOf_130 : decode cX9_hasteOf 130 = .ok (.iload_n 1, 1) := by decide +kernel
theorem dX9_hasteOf_131 : decode cX9_hasteOf 131 = .ok (.iaload, 1) := by decide +kernel
theorem dX9_hasteOf_132 : decode cX9_hasteOf 132 = .ok (.isub, 1) := by decide +kernel
theorem dX9_hasteOf_133 : decode cX9_hasteOf 133 = .ok (.iconst 2, 1) := by decide +kernel
theorem dX9_hasteOf_134 : decode cX9_hasteOf 134 = .ok (.idiv, 1) := by decide +kernel
theorem dX9_hasteOf_135 : decode cX9_hasteOf 135 = .ok (.istore 4, 2) := by decide +kernel
theorem dX9_hasteOf_137 : decode cX9_hasteOf 137 = .ok (.goto 23, 3) := by decide +kernel
theorem dX9_hasteOf_140 : decode cX9_hasteOf 140 = .ok (.iload_n 3, 1) := by decide +kernel
theorem dX9_hasteOf_141 : decode cX9_hasteOf 141 = .ok (.aload_n 0, 1) := by decide +kernel
theorem dX9_hasteOf_142 : decode cX9_hasteOf 142 = .ok (.getfield 37, 3) := by decide +kernel
theorem dX9_hasteOf_145 : decode cX9_hasteOf 145 = .ok (.iload_n 1, 1) := by decide +kernel
theorem dX9_hasteOf_146 : decode cX9_hasteOf 146 = .ok (.iaload, 1) := by decide +kernel
theorem dX9_hasteOf_147 : decode cX9_hasteOf 147 = .ok (.iadd, 1) := by decide +kernel
theorem dX9_hasteOf_148 : decode cX9_hasteOf 148 = .ok (.aload_n 0, 1) := by decide +kernel
theorem dX9_hasteOf_149 : decode cX9_hasteOf 149 = .ok (.getfield 40, 3) := by decide +kernel
theorem dX9_hasteOf_152 : decode cX9_hasteOf 152 = .ok (.iload_n 1, 1) := by decide +kernel
theorem dX9_hasteOf_153 : decode cX9_hasteOf 153 = .ok (.iaload, 1) := by decide +kernel
theorem dX9_hasteOf_154 : decode cX9_hasteOf 154 = .ok (.iadd, 1) := by decide +kernel
theorem dX9_hasteOf_155 : decode cX9_hasteOf 155 = .ok (.istore 4, 2) := by decide +kernel
theorem dX9_hasteOf_157 : decode cX9_hasteOf 157 = .ok (.goto 3, 3) := by decide +kernel
theorem dX9_hasteOf_160 : decode cX9_hasteOf 160 = .ok (.iload 4, 2) := by decide +kernel
theorem dX9_hasteOf_162 : decode cX9_hasteOf 162 = .ok (.ifCond .ge 7, 3) := by decide +kernel
theorem dX9_hasteOf_165 : decode cX9_hasteOf 165 = .ok (.iconst 0, 1) := by decide +kernel
theorem dX9_hasteOf_166 : decode cX9_hasteOf 166 = .ok (.goto 5, 3) := by decide +kernel
theorem dX9_hasteOf_169 : decode cX9_hasteOf 169 = .ok (.iload 4, 2) := by decide +kernel
theorem dX9_hasteOf_171 : decode cX9_hasteOf 171 = .ok (.ireturn, 1) := by decide +kernel
theorem dX9_haste_0 : decode cX9_haste 0 = .ok (.aload_n 0, 1) := by decide +kernel
theorem dX9_haste_1 : decode cX9_haste 1 = .ok (.iload_n 1, 1) := by decide +kernel
theorem dX9_haste_2 : decode cX9_haste 2 = .ok (.invokevirtual 123, 3) := by decide +kernel
theorem dX9_haste_5 : decode cX9_haste 5 = .ok (.ifCond .eq 20, 3) := by decide +kernel
theorem dX9_haste_8 : decode cX9_haste 8 = .ok (.aload_n 0, 1) := by decide +kernel
theorem dX9_haste_9 : decode cX9_haste 9 = .ok (.iload_n 2, 1) := by decide +kernel
theorem dX9_haste_10 : decode cX9_haste 10 = .ok (.invokevirtual 92, 3) := by decide +kernel
theorem dX9_haste_13 : decode cX9_haste 13 = .ok (.ifCond .eq 12, 3) := by decide +kernel
theorem dX9_haste_16 : decode cX9_haste 16 = .ok (.aload_n 0, 1) := by decide +kernel
theorem dX9_haste_17 : decode cX9_haste 17 = .ok (.iload_n 1, 1) := by decide +kernel
theorem dX9_haste_18 : decode cX9_haste 18 = .ok (.iload_n 2, 1) := by decide +kernel
theorem dX9_haste_19 : decode cX9_haste 19 = .ok (.invokevirtual 136, 3) := by decide +kernel
theorem dX9_haste_22 : decode cX9_haste 22 = .ok (.goto 8, 3) := by decide +kernel
theorem dX9_haste_25 : decode cX9_haste 25 = .ok (.aload_n 0, 1) := by decide +kernel
theorem dX9_haste_26 : decode cX9_haste 26 = .ok (.iconst (-1), 1) := by decide +kernel
theorem dX9_haste_27 : decode cX9_haste 27 = .ok (.invokevirtual 96, 3) := by decide +kernel
theorem dX9_haste_30 : decode cX9_haste 30 = .ok (.ireturn, 1) := by decide +kernel
theorem dX9_feed_0 : decode cX9_feed 0 = .ok (.iload_n 1, 1) := by decide +kernel
theorem dX9_feed_1 : decode cX9_feed 1 = .ok (.iconst 1, 1) := by decide +kernel
theorem dX9_feed_2 : decode cX9_feed 2 = .ok (.bipush 8, 2) := by decide +kernel
theorem dX9_feed_4 : decode cX9_feed 4 = .ok (.invokestatic 112, 3) := by decide +kernel
theorem dX9_feed_7 : decode cX9_feed 7 = .ok (.istore 4, 2) := by decide +kernel
theorem dX9_feed_9 : decode cX9_feed 9 = .ok (.iload 4, 2) := by decide +kernel
theorem dX9_feed_11 : decode cX9_feed 11 = .ok (.ifCond .ne 18, 3) := by decide +kernel
theorem dX9_feed_14 : decode cX9_feed 14 = .ok (.aload_n 0, 1) := by decide +kernel
theorem dX9_feed_15 : decode cX9_feed 15 = .ok (.getfield 139, 3) := by decide +kernel
theorem dX9_feed_18 : decode cX9_feed 18 = .ok (.iload_n 1, 1) := by decide +kernel
theorem dX9_feed_19 : decode cX9_feed 19 = .ok (.iadd, 1) := by decide +kernel
theorem dX9_feed_20 : decode cX9_feed 20 = .ok (.bipush 64, 2) := by decide +kernel
theorem dX9_feed_22 : decode cX9_feed 22 = .ok (.if_icmp .le 7, 3) := by decide +kernel
theorem dX9_feed_25 : decode cX9_feed 25 = .ok (.bipush (-6), 2) := by decide +kernel
theorem dX9_feed_27 : decode cX9_feed 27 = .ok (.istore 4, 2) := by decide +kernel
theorem dX9_feed_29 : decode cX9_feed 29 = .ok (.iload 4, 2) := by decide +kernel
theorem dX9_feed_31 : decode cX9_feed 31 = .ok (.ifCond .eq 10, 3) := by decide +kernel
theorem dX9_feed_34 : decode cX9_feed 34 = .ok (.aload_n 0, 1) := by decide +kernel
theorem dX9_feed_35 : decode cX9_feed 35 = .ok (.iload 4, 2) := by decide +kernel
theorem dX9_feed_37 : decode cX9_feed 37 = .ok (.invokevirtual 96, 3) := by decide +kernel
theorem dX9_feed_40 : decode cX9_feed 40 = .ok (.ireturn, 1) := by decide +kernel
theorem dX9_feed_41 : decode cX9_feed 41 = .ok (.iconst 0, 1) := by decide +kernel
theorem dX9_feed_42 : decode cX9_feed 42 = .ok (.istore 5, 2) := by decide +kernel
theorem dX9_feed_44 : decode cX9_feed 44 = .ok (.iload 5, 2) := by decide +kernel
theorem dX9_feed_46 : decode cX9_feed 46 = .ok (.iload_n 1, 1) := by decide +kernel
theorem dX9_feed_47 : decode cX9_feed 47 = .ok (.if_icmp .ge 40, 3) := by decide +kernel
theorem dX9_feed_50 : decode cX9_feed 50 = .ok (.aload_n 0, 1) := by decide +kernel
theorem dX9_feed_51 : decode cX9_feed 51 = .ok (.getfield 53, 3) := by decide +kernel
theorem dX9_feed_54 : decode cX9_feed 54 = .ok (.aload_n 0, 1) := by decide +kernel
theorem dX9_feed_55 : decode cX9_feed 55 = .ok (.getfield 139, 3) := by decide +kernel
theorem dX9_feed_58 : decode cX9_feed 58 = .ok (.lload_n 2, 1) := by decide +kernel
theorem dX9_feed_59 : decode cX9_feed 59 = .ok (.bipush 8, 2) := by decide +kernel
theorem dX9_feed_61 : decode cX9_feed 61 = .ok (.iload 5, 2) := by decide +kernel
theorem dX9_feed_63 : decode cX9_feed 63 = .ok (.imul, 1) := by decide +kernel
theorem dX9_feed_64 : decode cX9_feed 64 = .ok (.lshr, 1) := by decide +kernel
theorem dX9_feed_65 : decode cX9_feed 65 = .ok (.ldc2_w 142, 3) := by decide +kernel
theorem dX9_feed_68 : decode cX9_feed 68 = .ok (.land, 1) := by decide +kernel
theorem dX9_feed_69 : decode cX9_feed 69 = .ok (.l2i, 1) := by decide +kernel
theorem dX9_feed_70 : decode cX9_feed 70 = .ok (.iastore, 1) := by decide +kernel
theorem dX9_feed_71 : decode cX9_feed 71 = .ok (.aload_n 0, 1) := by decide +kernel
theorem dX9_feed_72 : decode cX9_feed 72 = .ok (.dup, 1) := by decide +kernel
theorem dX9_feed_73 : decode cX9_feed 73 = .ok (.getfield 139, 3) := by decide +kernel
theorem dX9_feed_76 : decode cX9_feed 76 = .ok (.iconst 1, 1) := by decide +kernel
theorem dX9_feed_77 : decode cX9_feed 77 = .ok (.iadd, 1) := by decide +kernel
theorem dX9_feed_78 : decode cX9_feed 78 = .ok (.putfield 139, 3) := by decide +kernel
theorem dX9_feed_81 : decode cX9_feed 81 = .ok (.iinc 5 1, 3) := by decide +kernel
theorem dX9_feed_84 : decode cX9_feed 84 = .ok (.goto (-40), 3) := by decide +kernel
theorem dX9_feed_87 : decode cX9_feed 87 = .ok (.aload_n 0, 1) := by decide +kernel
theorem dX9_feed_88 : decode cX9_feed 88 = .ok (.getfield 139, 3) := by decide +kernel
theorem dX9_feed_91 : decode cX9_feed 91 = .ok (.ireturn, 1) := by decide +kernel
theorem dX9_sign_0 : decode cX9_sign 0 = .ok (.aload_n 0, 1) := by decide +kernel
theorem dX9_sign_1 : decode cX9_sign 1 = .ok (.getfield 144, 3) := by decide +kernel
theorem dX9_sign_4 : decode cX9_sign 4 = .ok (.aload_n 0, 1) := by decide +kernel
theorem dX9_sign_5 : decode cX9_sign 5 = .ok (.getfield 139, 3) := by decide +kernel
theorem dX9_sign_8 : decode cX9_sign 8 = .ok (.if_icmp .ge 15, 3) := by decide +kernel
theorem dX9_sign_11 : decode cX9_sign 11 = .ok (.aload_n 0, 1) := by decide +kernel
theorem dX9_sign_12 : decode cX9_sign 12 = .ok (.getfield 53, 3) := by decide +kernel
theorem dX9_sign_15 : decode cX9_sign 15 = .ok (.aload_n 0, 1) := by decide +kernel
theorem dX9_sign_16 : decode cX9_sign 16 = .ok (.getfield 144, 3) := by decide +kernel
theorem dX9_sign_19 : decode cX9_sign 19 = .ok (.iaload, 1) := by decide +kernel
theorem dX9_sign_20 : decode cX9_sign 20 = .ok (.goto 4, 3) := by decide +kernel
theorem dX9_sign_23 : decode cX9_sign 23 = .ok (.iconst (-1), 1) := by decide +kernel
theorem dX9_sign_24 : decode cX9_sign 24 = .ok (.ireturn, 1) := by decide +kernel
theorem dX9_takes_0 : decode cX9_takes 0 = .ok (.aload_n 0, 1) := by decide +kernel
theorem dX9_takes_1 : decode cX9_takes 1 = .ok (.invokevirtual 147, 3) := by decide +kernel
theorem dX9_takes_4 : decode cX9_takes 4 = .ok (.iload_n 1, 1) := by decide +kernel
theorem dX9_takes_5 : decode cX9_takes 5 = .ok (.if_icmp .eq 5, 3) := by decide +kernel
theorem dX9_takes_8 : decode cX9_takes 8 = .ok (.iconst 0, 1) := by decide +kernel
theorem dX9_takes_9 : decode cX9_takes 9 = .ok (.ireturn, 1) := by decide +kernel
theorem dX9_takes_10 : decode cX9_takes 10 = .ok (.aload_n 0, 1) := by decide +kernel
theorem dX9_takes_11 : decode cX9_takes 11 = .ok (.dup, 1) := by decide +kernel
theorem dX9_takes_12 : decode cX9_takes 12 = .ok (.getfield 144, 3) := by decide +kernel
theorem dX9_takes_15 : decode cX9_takes 15 = .ok (.iconst 1, 1) := by decide +kernel
theorem dX9_takes_16 : decode cX9_takes 16 = .ok (.iadd, 1) := by decide +kernel
theorem dX9_takes_17 : decode cX9_takes 17 = .ok (.putfield 144, 3) := by decide +kernel
theorem dX9_takes_20 : decode cX9_takes 20 = .ok (.iconst 1, 1) := by decide +kernel
theorem dX9_takes_21 : decode cX9_takes 21 = .ok (.ireturn, 1) := by decide +kernel
theorem dX9_number_0 : decode cX9_number 0 = .ok (.aload_n 0, 1) := by decide +kernel
theorem dX9_number_1 : decode cX9_number 1 = .ok (.invokevirtual 147, 3) := by decide +kernel
theorem dX9_number_4 : decode cX9_number 4 = .ok (.bipush 48, 2) := by decide +kernel
theorem dX9_number_6 : decode cX9_number 6 = .ok (.bipush 57, 2) := by decide +kernel
theorem dX9_number_8 : decode cX9_number 8 = .ok (.invokestatic 108, 3) := by decide +kernel
theorem dX9_number_11 : decode cX9_number 11 = .ok (.ifCond .ne 5, 3) := by decide +kernel
theorem dX9_number_14 : decode cX9_number 14 = .ok (.iconst (-1), 1) := by decide +kernel
theorem dX9_number_15 : decode cX9_number 15 = .ok (.ireturn, 1) := by decide +kernel
theorem dX9_number_16 : decode cX9_number 16 = .ok (.aload_n 0, 1) := by decide +kernel
theorem dX9_number_17 : decode cX9_number 17 = .ok (.invokevirtual 147, 3) := by decide +kernel
theorem dX9_number_20 : decode cX9_number 20 = .ok (.bipush 48, 2) := by decide +kernel
theorem dX9_number_22 : decode cX9_number 22 = .ok (.isub, 1) := by decide +kernel
theorem dX9_number_23 : decode cX9_number 23 = .ok (.istore_n 2, 1) := by decide +kernel
theorem dX9_number_24 : decode cX9_number 24 = .ok (.aload_n 0, 1) := by decide +kernel
theorem dX9_number_25 : decode cX9_number 25 = .ok (.dup, 1) := by decide +kernel
theorem dX9_number_26 : decode cX9_number 26 = .ok (.getfield 144, 3) := by decide +kernel
theorem dX9_number_29 : decode cX9_number 29 = .ok (.iconst 1, 1) := by decide +kernel
theorem dX9_number_30 : decode cX9_number 30 = .ok (.iadd, 1) := by decide +kernel
theorem dX9_number_31 : decode cX9_number 31 = .ok (.putfield 144, 3) := by decide +kernel
theorem dX9_number_34 : decode cX9_number 34 = .ok (.iconst 1, 1) := by decide +kernel
theorem dX9_number_35 : decode cX9_number 35 = .ok (.istore_n 3, 1) := by decide +kernel
theorem dX9_number_36 : decode cX9_number 36 = .ok (.iload_n 3, 1) := by decide +kernel
theorem dX9_number_37 : decode cX9_number 37 = .ok (.iload_n 1, 1) := by decide +kernel
theorem dX9_number_38 : decode cX9_number 38 = .ok (.if_icmp .ge 50, 3) := by decide +kernel
theorem dX9_number_41 : decode cX9_number 41 = .ok (.iload_n 2, 1) := by decide +kernel
theorem dX9_number_42 : decode cX9_number 42 = .ok (.ifCond .le 46, 3) := by decide +kernel
theorem dX9_number_45 : decode cX9_number 45 = .ok (.aload_n 0, 1) := by decide +kernel
theorem dX9_number_46 : decode cX9_number 46 = .ok (.invokevirtual 147, 3) := by decide +kernel
theorem dX9_number_49 : decode cX9_number 49 = .ok (.bipush 48, 2) := by decide +kernel
theorem dX9_number_51 : decode cX9_number 51 = .ok (.bipush 57, 2) := by decide +kernel
theorem dX9_number_53 : decode cX9_number 53 = .ok (.invokestatic 108, 3) := by decide +kernel
theorem dX9_number_56 : decode cX9_number 56 = .ok (.ifCond .eq 32, 3) := by decide +kernel
theorem dX9_number_59 : decode cX9_number 59 = .ok (.bipush 10, 2) := by decide +kernel
theorem dX9_number_61 : decode cX9_number 61 = .ok (.iload_n 2, 1) := by decide +kernel
theorem dX9_number_62 : decode cX9_number 62 = .ok (.imul, 1) := by decide +kernel
theorem dX9_number_63 : decode cX9_number 63 = .ok (.aload_n 0, 1) := by decide +kernel
theorem dX9_number_64 : decode cX9_number 64 = .ok (.invokevirtual 147, 3) := by decide +kernel
theorem dX9_number_67 : decode cX9_number 67 = .ok (.iadd, 1) := by decide +kernel
theorem dX9_number_68 : decode cX9_number 68 = .ok (.bipush 48, 2) := by decide +kernel
theorem dX9_number_70 : decode cX9_number 70 = .ok (.isub, 1) := by decide +kernel
theorem dX9_number_71 : decode cX9_number 71 = .ok (.istore_n 2, 1) := by decide +kernel
theorem dX9_number_72 : decode cX9_number 72 = .ok (.aload_n 0, 1) := by decide +kernel
theorem dX9_number_73 : decode cX9_number 73 = .ok (.dup, 1) := by decide +kernel
theorem dX9_number_74 : decode cX9_number 74 = .ok (.getfield 144, 3) := by decide +kernel
theorem dX9_number_77 : decode cX9_number 77 = .ok (.iconst 1, 1) := by decide +kernel
theorem dX9_number_78 : decode cX9_number 78 = .ok (.iadd, 1) := by decide +kernel
theorem dX9_number_79 : decode cX9_number 79 = .ok (.putfield 144, 3) := by decide +kernel
theorem dX9_number_82 : decode cX9_number 82 = .ok (.iinc 3 1, 3) := by decide +kernel
theorem dX9_number_85 : decode cX9_number 85 = .ok (.goto (-49), 3) := by decide +kernel
theorem dX9_number_88 : decode cX9_number 88 = .ok (.iload_n 2, 1) := by decide +kernel
theorem dX9_number_89 : decode cX9_number 89 = .ok (.ireturn, 1) := by decide +kernel
theorem dX9_statement_0 : decode cX9_statement 0 = .ok (.aload_n 0, 1) := by decide +kernel
theorem dX9_statement_1 : decode cX9_statement 1 = .ok (.invokevirtual 147, 3) := by decide +kernel
theorem dX9_statement_4 : decode cX9_statement 4 = .ok (.istore_n 1, 1) := by decide +kernel
theorem dX9_statement_5 : decode cX9_statement 5 = .ok (.iload_n 1, 1) := by decide +kernel
theorem dX9_statement_6 : decode cX9_statement 6 = .ok (.bipush 110, 2) := by decide +kernel
theorem dX9_statement_8 : decode cX9_statement 8 = .ok (.if_icmp .eq 29, 3) := by decide +kernel
theorem dX9_statement_11 : decode cX9_statement 11 = .ok (.iload_n 1, 1) := by decide +kernel
theorem dX9_statement_12 : decode cX9_statement 12 = .ok (.bipush 99, 2) := by decide +kernel
theorem dX9_statement_14 : decode cX9_statement 14 = .ok (.if_icmp .eq 23, 3) := by decide +kernel
theorem dX9_statement_17 : decode cX9_statement 17 = .ok (.iload_n 1, 1) := by decide +kernel
theorem dX9_statement_18 : decode cX9_statement 18 = .ok (.bipush 119, 2) := by decide +kernel
theorem dX9_statement_20 : decode cX9_statement 20 = .ok (.if_icmp .eq 17, 3) := by decide +kernel
theorem dX9_statement_23 : decode cX9_statement 23 = .ok (.iload_n 1, 1) := by decide +kernel
theorem dX9_statement_24 : decode cX9_statement 24 = .ok (.bipush 112, 2) := by decide +kernel
theorem dX9_statement_26 : decode cX9_statement 26 = .ok (.if_icmp .eq 11, 3) := by decide +kernel
theorem dX9_statement_29 : decode cX9_statement 29 = .ok (.iload_n 1, 1) := by decide +kernel
theorem dX9_statement_30 : decode cX9_statement 30 = .ok (.bipush 102, 2) := by decide +kernel
theorem dX9_statement_32 : decode cX9_statement 32 = .ok (.if_icmp .eq 5, 3) := by decide +kernel
theorem dX9_statement_35 : decode cX9_statement 35 = .ok (.iconst 0, 1) := by decide +kernel
theorem dX9_statement_36 : decode cX9_statement 36 = .ok (.ireturn, 1) := by decide +kernel
theorem dX9_statement_37 : decode cX9_statement 37 = .ok (.aload_n 0, 1) := by decide +kernel
theorem dX9_statement_38 : decode cX9_statement 38 = .ok (.getfield 150, 3) := by decide +kernel
theorem dX9_statement_41 : decode cX9_statement 41 = .ok (.istore_n 2, 1) := by decide +kernel
theorem dX9_statement_42 : decode cX9_statement 42 = .ok (.aload_n 0, 1) := by decide +kernel
theorem dX9_statement_43 : decode cX9_statement 43 = .ok (.getfield 56, 3) := by decide +kernel
theorem dX9_statement_46 : decode cX9_statement 46 = .ok (.iload_n 2, 1) := by decide +kernel
theorem dX9_statement_47 : decode cX9_statement 47 = .ok (.iload_n 1, 1) := by decide +kernel
theorem dX9_statement_48 : decode cX9_statement 48 = .ok (.iastore, 1) := by decide +kernel
theorem dX9_statement_49 : decode cX9_statement 49 = .ok (.aload_n 0, 1) := by decide +kernel
theorem dX9_statement_50 : decode cX9_statement 50 = .ok (.getfield 59, 3) := by decide +kernel
theorem dX9_statement_53 : decode cX9_statement 53 = .ok (.iload_n 2, 1) := by decide +kernel
theorem dX9_statement_54 : decode cX9_statement 54 = .ok (.aload_n 0, 1) := by decide +kernel
theorem dX9_statement_55 : decode cX9_statement 55 = .ok (.getfield 144, 3) := by decide +kernel
theorem dX9_statement_58 : decode cX9_statement 58 = .ok (.iastore, 1) := by decide +kernel
theorem dX9_statement_59 : decode cX9_statement 59 = .ok (.aload_n 0, 1) := by decide +kernel
theorem dX9_statement_60 : decode cX9_statement 60 = .ok (.dup, 1) := by decide +kernel
theorem dX9_statement_61 : decode cX9_statement 61 = .ok (.getfield 144, 3) := by decide +kernel
theorem dX9_statement_64 : decode cX9_statement 64 = .ok (.iconst 1, 1) := by decide +kernel
theorem dX9_statement_65 : decode cX9_statement 65 = .ok (.iadd, 1) := by decide +kernel
theorem dX9_statement_66 : decode cX9_statement 66 = .ok (.putfield 144, 3) := by decide +kernel
theorem dX9_statement_69 : decode cX9_statement 69 = .ok (.aload_n 0, 1) := by decide +kernel
theorem dX9_statement_70 : decode cX9_statement 70 = .ok (.getfield 62, 3) := by decide +kernel
theorem dX9_statement_73 : decode cX9_statement 73 = .ok (.iload_n 2, 1) := by decide +kernel
theorem dX9_statement_74 : decode cX9_statement 74 = .ok (.aload_n 0, 1) := by decide +kernel
theorem dX9_statement_75 : decode cX9_statement 75 = .ok (.iload_n 1, 1) := by decide +kernel
theorem dX9_statement_76 : decode cX9_statement 76 = .ok (.bipush 112, 2) := by decide +kernel
theorem dX9_statement_78 : decode cX9_statement 78 = .ok (.if_icmp .eq 9, 3) := by decide +kernel
theorem dX9_statement_81 : decode cX9_statement 81 = .ok (.iload_n 1, 1) := by decide +kernel
theorem dX9_statement_82 : decode cX9_statement 82 = .ok (.bipush 102, 2) := by decide +kernel
theorem dX9_statement_84 : decode cX9_statement 84 = .ok (.if_icmp .ne 7, 3) := by decide +kernel
theorem dX9_statement_87 : decode cX9_statement 87 = .ok (.iconst 1, 1) := by decide +kernel
theorem dX9_statement_88 : decode cX9_statement 88 = .ok (.goto 4, 3) := by decide +kernel
theorem dX9_statement_91 : decode cX9_statement 91 = .ok (.iconst 3, 1) := by decide +kernel
theorem dX9_statement_92 : decode cX9_statement 92 = .ok (.invokevirtual 153, 3) := by decide +kernel
theorem dX9_statement_95 : decode cX9_statement 95 = .ok (.iastore, 1) := by decide +kernel
theorem dX9_statement_96 : decode cX9_statement 96 = .ok (.aload_n 0, 1) := by decide +kernel
theorem dX9_statement_97 : decode cX9_statement 97 = .ok (.getfield 62, 3) := by decide +kernel
theorem dX9_statement_100 : decode cX9_statement 100 = .ok (.iload_n 2, 1) := by decide +kernel
theorem dX9_statement_101 : decode cX9_statement 101 = .ok (.iaload, 1) := by decide +kernel
theorem dX9_statement_102 : decode cX9_statement 102 = .ok (.ifCond .ge 5, 3) := by decide +kernel
theorem dX9_statement_105 : decode cX9_statement 105 = .ok (.iconst 0, 1) := by decide +kernel
theorem dX9_statement_106 : decode cX9_statement 106 = .ok (.ireturn, 1) := by decide +kernel
theorem dX9_statement_107 : decode cX9_statement 107 = .ok (.iload_n 1, 1) := by decide +kernel
theorem dX9_statement_108 : decode cX9_statement 108 = .ok (.bipush 119, 2) := by decide +kernel
theorem dX9_statement_110 : decode cX9_statement 110 = .ok (.if_icmp .ne 36, 3) := by decide +kernel
theorem dX9_statement_113 : decode cX9_statement 113 = .ok (.aload_n 0, 1) := by decide +kernel
theorem dX9_statement_114 : decode cX9_statement 114 = .ok (.bipush 44, 2) := by decide +kernel
theorem dX9_statement_116 : decode cX9_statement 116 = .ok (.invokevirtual 156, 3) := by decide +kernel
theorem dX9_statement_119 : decode cX9_statement 119 = .ok (.ifCond .ne 5, 3) := by decide +kernel
theorem dX9_statement_122 : decode cX9_statement 122 = .ok (.iconst 0, 1) := by decide +kernel
theorem dX9_statement_123 : decode cX9_statement 123 = .ok (.ireturn, 1) := by decide +kernel
theorem dX9_statement_124 : decode cX9_statement 124 = .ok (.aload_n 0, 1) := by decide +kernel
theorem dX9_statement_125 : decode cX9_statement 125 = .ok (.getfield 65, 3) := by decide +kernel
theorem dX9_statement_128 : decode cX9_statement 128 = .ok (.iload_n 2, 1) := by decide +kernel
theorem dX9_statement_129 : decode cX9_statement 129 = .ok (.aload_n 0, 1) := by decide +kernel
theorem dX9_statement_130 : decode cX9_statement 130 = .ok (.iconst 1, 1) := by decide +kernel
theorem dX9_statement_131 : decode cX9_statement 131 = .ok (.invokevirtual 153, 3) := by decide +kernel
theorem dX9_statement_134 : decode cX9_statement 134 = .ok (.iastore, 1) := by decide +kernel
theorem dX9_statement_135 : decode cX9_statement 135 = .ok (.aload_n 0, 1) := by decide +kernel
theorem dX9_statement_136 : decode cX9_statement 136 = .ok (.getfield 65, 3) := by decide +kernel
theorem dX9_statement_139 : decode cX9_statement 139 = .ok (.iload_n 2, 1) := by decide +kernel
theorem dX9_statement_140 : decode cX9_statement 140 = .ok (.iaload, 1) := by decide +kernel
theorem dX9_statement_141 : decode cX9_statement 141 = .ok (.ifCond .ge 5, 3) := by decide +kernel
theorem dX9_statement_144 : decode cX9_statement 144 = .ok (.iconst 0, 1) := by decide +kernel
theorem dX9_statement_145 : decode cX9_statement 145 = .ok (.ireturn, 1) := by decide +kernel
theorem dX9_statement_146 : decode cX9_statement 146 = .ok (.iload_n 1, 1) := by decide +kernel
theorem dX9_statement_147 : decode cX9_statement 147 = .ok (.bipush 119, 2) := by decide +kernel
theorem dX9_statement_149 : decode cX9_statement 149 = .ok (.if_icmp .eq 9, 3) := by decide +kernel
theorem dX9_statement_152 : decode cX9_statement 152 = .ok (.iload_n 1, 1) := by decide +kernel
theorem dX9_statement_153 : decode cX9_statement 153 = .ok (.bipush 112, 2) := by decide +kernel
theorem dX9_statement_155 : decode cX9_statement 155 = .ok (.if_icmp .ne 36, 3) := by decide +kernel
theorem dX9_statement_158 : decode cX9_statement 158 = .ok (.aload_n 0, 1) := by decide +kernel
theorem dX9_statement_159 : decode cX9_statement 159 = .ok (.bipush 44, 2) := by decide +kernel
theorem dX9_statement_161 : decode cX9_statement 161 = .ok (.invokevirtual 156, 3) := by decide +kernel
theorem dX9_statement_164 : decode cX9_statement 164 = .ok (.ifCond .ne 5, 3) := by decide +kernel
theorem dX9_statement_167 : decode cX9_statement 167 = .ok (.iconst 0, 1) := by decide +kernel
theorem dX9_statement_168 : decode cX9_statement 168 = .ok (.ireturn, 1) := by decide +kernel
theorem dX9_statement_169 : decode cX9_statement 169 = .ok (.aload_n 0, 1) := by decide +kernel
theorem dX9_statement_170 : decode cX9_statement 170 = .ok (.getfield 68, 3) := by decide +kernel
theorem dX9_statement_173 : decode cX9_statement 173 = .ok (.iload_n 2, 1) := by decide +kernel
theorem dX9_statement_174 : decode cX9_statement 174 = .ok (.aload_n 0, 1) := by decide +kernel
theorem dX9_statement_175 : decode cX9_statement 175 = .ok (.iconst 3, 1) := by decide +kernel
theorem dX9_statement_176 : decode cX9_statement 176 = .ok (.invokevirtual 153, 3) := by decide +kernel
theorem dX9_statement_179 : decode cX9_statement 179 = .ok (.iastore, 1) := by decide +kernel
theorem dX9_statement_180 : decode cX9_statement 180 = .ok (.aload_n 0, 1) := by decide +kernel
theorem dX9_statement_181 : decode cX9_statement 181 = .ok (.getfield 68, 3) := by decide +kernel
theorem dX9_statement_184 : decode cX9_statement 184 = .ok (.iload_n 2, 1) := by decide +kernel
theorem dX9_statement_185 : decode cX9_statement 185 = .ok (.iaload, 1) := by decide +kernel
theorem dX9_statement_186 : decode cX9_statement 186 = .ok (.ifCond .ge 5, 3) := by decide +kernel
theorem dX9_statement_189 : decode cX9_statement 189 = .ok (.iconst 0, 1) := by decide +kernel
theorem dX9_statement_190 : decode cX9_statement 190 = .ok (.ireturn, 1) := by decide +kernel
theorem dX9_statement_191 : decode cX9_statement 191 = .ok (.aload_n 0, 1) := by decide +kernel
theorem dX9_statement_192 : decode cX9_statement 192 = .ok (.bipush 59, 2) := by decide +kernel
theorem dX9_statement_194 : decode cX9_statement 194 = .ok (.invokevirtual 156, 3) := by decide +kernel
theorem dX9_statement_197 : decode cX9_statement 197 = .ok (.ireturn, 1) := by decide +kernel
theorem dX9_comes_0 : decode cX9_comes 0 = .ok (.aload_n 0, 1) := by decide +kernel
theorem dX9_comes_1 : decode cX9_comes 1 = .ok (.getfield 62, 3) := by decide +kernel
theorem dX9_comes_4 : decode cX9_comes 4 = .ok (.iload_n 1, 1) := by decide +kernel
theorem dX9_comes_5 : decode cX9_comes 5 = .ok (.iaload, 1) := by decide +kernel
theorem dX9_comes_6 : decode cX9_comes 6 = .ok (.istore_n 2, 1) := by decide +kernel
theorem dX9_comes_7 : decode cX9_comes 7 = .ok (.aload_n 0, 1) := by decide +kernel
theorem dX9_comes_8 : decode cX9_comes 8 = .ok (.getfield 56, 3) := by decide +kernel
theorem dX9_comes_11 : decode cX9_comes 11 = .ok (.iload_n 1, 1) := by decide +kernel
theorem dX9_comes_12 : decode cX9_comes 12 = .ok (.iaload, 1) := by decide +kernel
theorem dX9_comes_13 : decode cX9_comes 13 = .ok (.lookupswitch 223 #[(99, 76), (110, 43), (112, 184), (119, 112)], 43) := by decide +kernel
theorem dX9_comes_56 : decode cX9_comes 56 = .ok (.iload_n 2, 1) := by decide +kernel
theorem dX9_comes_57 : decode cX9_comes 57 = .ok (.iconst 4, 1) := by decide +kernel
theorem dX9_comes_58 : decode cX9_comes 58 = .ok (.bipush 60, 2) := by decide +kernel
theorem dX9_comes_60 : decode cX9_comes 60 = .ok (.invokestatic 108, 3) := by decide +kernel
theorem dX9_comes_63 : decode cX9_comes 63 = .ok (.ifCond .eq 17, 3) := by decide +kernel
theorem dX9_comes_66 : decode cX9_comes 66 = .ok (.aload_n 0, 1) := by decide +kernel
theorem dX9_comes_67 : decode cX9_comes 67 = .ok (.getfield 86, 3) := by decide +kernel
theorem dX9_comes_70 : decode cX9_comes 70 = .ok (.ifCond .gt 10, 3) := by decide +kernel
theorem dX9_comes_73 : decode cX9_comes 73 = .ok (.aload_n 0, 1) := by decide +kernel
theorem dX9_comes_74 : decode cX9_comes 74 = .ok (.invokevirtual 100, 3) := by decide +kernel
theorem dX9_comes_77 : decode cX9_comes 77 = .ok (.ifCond .le 5, 3) := by decide +kernel
theorem dX9_comes_80 : decode cX9_comes 80 = .ok (.iconst 0, 1) := by decide +kernel
theorem dX9_comes_81 : decode cX9_comes 81 = .ok (.ireturn, 1) := by decide +kernel
theorem dX9_comes_82 : decode cX9_comes 82 = .ok (.aload_n 0, 1) := by decide +kernel
theorem dX9_comes_83 : decode cX9_comes 83 = .ok (.iload_n 2, 1) := by decide +kernel
theorem dX9_comes_84 : decode cX9_comes 84 = .ok (.putfield 43, 3) := by decide +kernel
theorem dX9_comes_87 : decode cX9_comes 87 = .ok (.iconst 1, 1) := by decide +kernel
theorem dX9_comes_88 : decode cX9_comes 88 = .ok (.ireturn, 1) := by decide +kernel
theorem dX9_comes_89 : decode cX9_comes 89 = .ok (.aload_n 0, 1) := by decide +kernel
theorem dX9_comes_90 : decode cX9_comes 90 = .ok (.iload_n 2, 1) := by decide +kernel
theorem dX9_comes_91 : decode cX9_comes 91 = .ok (.invokevirtual 92, 3) := by decide +kernel
theorem dX9_comes_94 : decode cX9_comes 94 = .ok (.ifCond .eq 22, 3) := by decide +kernel
theorem dX9_comes_97 : decode cX9_comes 97 = .ok (.aload_n 0, 1) := by decide +kernel
theorem dX9_comes_98 : decode cX9_comes 98 = .ok (.getfield 13, 3) := by decide +kernel
theorem dX9_comes_101 : decode cX9_comes 101 = .ok (.iload_n 2, 1) := by decide +kernel
theorem dX9_comes_102 : decode cX9_comes 102 = .ok (.iaload, 1) := by decide +kernel
theorem dX9_comes_103 : decode cX9_comes 103 = .ok (.iconst 1, 1) := by decide +kernel
theorem dX9_comes_104 : decode cX9_comes 104 = .ok (.if_icmp .eq 12, 3) := by decide +kernel
theorem dX9_comes_107 : decode cX9_comes 107 = .ok (.aload_n 0, 1) := by decide +kernel
theorem dX9_comes_108 : decode cX9_comes 108 = .ok (.invokevirtual 100, 3) := by decide +kernel
theorem dX9_comes_111 : decode cX9_comes 111 = .ok (.bipush 11, 2) := by decide +kernel
theorem dX9_comes_113 : decode cX9_comes 113 = .ok (.if_icmp .ne 5, 3) := by decide +kernel
theorem dX9_comes_116 : decode cX9_comes 116 = .ok (.iconst 0, 1) := by decide +kernel
theorem dX9_comes_117 : decode cX9_comes 117 = .ok (.ireturn, 1) := by decide +kernel
theorem dX9_comes_118 : decode cX9_comes 118 = .ok (.aload_n 0, 1) := by decide +kernel
theorem dX9_comes_119 : decode cX9_comes 119 = .ok (.iload_n 2, 1) := by decide +kernel
theorem dX9_comes_120 : decode cX9_comes 120 = .ok (.invokevirtual 104, 3) := by decide +kernel
theorem dX9_comes_123 : decode cX9_comes 123 = .ok (.iconst 1, 1) := by decide +kernel
theorem dX9_comes_124 : decode cX9_comes 124 = .ok (.ireturn, 1) := by decide +kernel
theorem dX9_comes_125 : decode cX9_comes 125 = .ok (.aload_n 0, 1) := by decide +kernel
theorem dX9_comes_126 : decode cX9_comes 126 = .ok (.iload_n 2, 1) := by decide +kernel
theorem dX9_comes_127 : decode cX9_comes 127 = .ok (.invokevirtual 92, 3) := by decide +kernel
theorem dX9_comes_130 : decode cX9_comes 130 = .ok (.ifCond .eq 46, 3) := by decide +kernel
theorem dX9_comes_133 : decode cX9_comes 133 = .ok (.aload_n 0, 1) := by decide +kernel
theorem dX9_comes_134 : decode cX9_comes 134 = .ok (.getfield 65, 3) := by decide +kernel
theorem dX9_comes_137 : decode cX9_comes 137 = .ok (.iload_n 1, 1) := by decide +kernel
theorem dX9_comes_138 : decode cX9_comes 138 = .ok (.iaload, 1) := by decide +kernel
theorem dX9_comes_139 : decode cX9_comes 139 = .ok (.bipush 6, 2) := by decide +kernel
theorem dX9_comes_141 : decode cX9_comes 141 = .ok (.if_icmp .gt 35, 3) := by decide +kernel
theorem dX9_comes_144 : decode cX9_comes 144 = .ok (.aload_n 0, 1) := by decide +kernel
theorem dX9_comes_145 : decode cX9_comes 145 = .ok (.getfield 68, 3) := by decide +kernel
theorem dX9_comes_148 : decode cX9_comes 148 = .ok (.iload_n 1, 1) := by decide +kernel
theorem dX9_comes_149 : decode cX9_comes 149 = .ok (.iaload, 1) := by decide +kernel
theorem dX9_comes_150 : decode cX9_comes 150 = .ok (.iconst 1, 1) := by decide +kernel
theorem dX9_comes_151 : decode cX9_comes 151 = .ok (.bipush 99, 2) := by decide +kernel
theorem dX9_comes_153 : decode cX9_comes 153 = .ok (.invokestatic 108, 3) := by decide +kernel
theorem dX9_comes_156 : decode cX9_comes 156 = .ok (.ifCond .eq 20, 3) := by decide +kernel
theorem dX9_comes_159 : decode cX9_comes 159 = .ok (.aload_n 0, 1) := by decide +kernel
theorem dX9_comes_160 : decode cX9_comes 160 = .ok (.getfield 86, 3) := by decide +kernel
theorem dX9_comes_163 : decode cX9_comes 163 = .ok (.bipush 12, 2) := by decide +kernel
theorem dX9_comes_165 : decode cX9_comes 165 = .ok (.if_icmp .eq 11, 3) := by decide +kernel
theorem dX9_comes_168 : decode cX9_comes 168 = .ok (.aload_n 0, 1) := by decide +kernel
theorem dX9_comes_169 : decode cX9_comes 169 = .ok (.iload_n 2, 1) := by decide +kernel
theorem dX9_comes_170 : decode cX9_comes 170 = .ok (.invokevirtual 116, 3) := by decide +kernel
theorem dX9_comes_173 : decode cX9_comes 173 = .ok (.ifCond .eq 5, 3) := by decide +kernel
theorem dX9_comes_176 : decode cX9_comes 176 = .ok (.iconst 0, 1) := by decide +kernel
theorem dX9_comes_177 : decode cX9_comes 177 = .ok (.ireturn, 1) := by decide +kernel
theorem dX9_comes_178 : decode cX9_comes 178 = .ok (.aload_n 0, 1) := by decide +kernel
theorem dX9_comes_179 : decode cX9_comes 179 = .ok (.iload_n 2, 1) := by decide +kernel
theorem dX9_comes_180 : decode cX9_comes 180 = .ok (.aload_n 0, 1) := by decide +kernel
theorem dX9_comes_181 : decode cX9_comes 181 = .ok (.getfield 65, 3) := by decide +kernel
theorem dX9_comes_184 : decode cX9_comes 184 = .ok (.iload_n 1, 1) := by decide +kernel
theorem dX9_comes_185 : decode cX9_comes 185 = .ok (.iaload, 1) := by decide +kernel
theorem dX9_comes_186 : decode cX9_comes 186 = .ok (.aload_n 0, 1) := by decide +kernel
theorem dX9_comes_187 : decode cX9_comes 187 = .ok (.getfield 68, 3) := by decide +kernel
theorem dX9_comes_190 : decode cX9_comes 190 = .ok (.iload_n 1, 1) := by decide +kernel
theorem dX9_comes_191 : decode cX9_comes 191 = .ok (.iaload, 1) := by decide +kernel
theorem dX9_comes_192 : decode cX9_comes 192 = .ok (.invokevirtual 119, 3) := by decide +kernel
theorem dX9_comes_195 : decode cX9_comes 195 = .ok (.iconst 1, 1) := by decide +kernel
theorem dX9_comes_196 : decode cX9_comes 196 = .ok (.ireturn, 1) := by decide +kernel
theorem dX9_comes_197 : decode cX9_comes 197 = .ok (.iload_n 2, 1) := by decide +kernel
theorem dX9_comes_198 : decode cX9_comes 198 = .ok (.iconst 4, 1) := by decide +kernel
theorem dX9_comes_199 : decode cX9_comes 199 = .ok (.if_icmp .gt 18, 3) := by decide +kernel
theorem dX9_comes_202 : decode cX9_comes 202 = .ok (.aload_n 0, 1) := by decide +kernel
theorem dX9_comes_203 : decode cX9_comes 203 = .ok (.getfield 68, 3) := by decide +kernel
theorem dX9_comes_206 : decode cX9_comes 206 = .ok (.iload_n 1, 1) := by decide +kernel
theorem dX9_comes_207 : decode cX9_comes 207 = .ok (.iaload, 1) := by decide +kernel
theorem dX9_comes_208 : decode cX9_comes 208 = .ok (.iconst 1, 1) := by decide +kernel
theorem dX9_comes_209 : decode cX9_comes 209 = .ok (.bipush 99, 2) := by decide +kernel
theorem dX9_comes_211 : decode cX9_comes 211 = .ok (.invokestatic 108, 3) := by decide +kernel
theorem dX9_comes_214 : decode cX9_comes 214 = .ok (.ifCond .ne 5, 3) := by decide +kernel
theorem dX9_comes_217 : decode cX9_comes 217 = .ok (.iconst 0, 1) := by decide +kernel
theorem dX9_comes_218 : decode cX9_comes 218 = .ok (.ireturn, 1) := by decide +kernel
theorem dX9_comes_219 : decode cX9_comes 219 = .ok (.aload_n 0, 1) := by decide +kernel
theorem dX9_comes_220 : decode cX9_comes 220 = .ok (.iload_n 2, 1) := by decide +kernel
theorem dX9_comes_221 : decode cX9_comes 221 = .ok (.putfield 126, 3) := by decide +kernel
theorem dX9_comes_224 : decode cX9_comes 224 = .ok (.aload_n 0, 1) := by decide +kernel
theorem dX9_comes_225 : decode cX9_comes 225 = .ok (.aload_n 0, 1) := by decide +kernel
theorem dX9_comes_226 : decode cX9_comes 226 = .ok (.getfield 68, 3) := by decide +kernel
theorem dX9_comes_229 : decode cX9_comes 229 = .ok (.iload_n 1, 1) := by decide +kernel
theorem dX9_comes_230 : decode cX9_comes 230 = .ok (.iaload, 1) := by decide +kernel
theorem dX9_comes_231 : decode cX9_comes 231 = .ok (.putfield 47, 3) := by decide +kernel
theorem dX9_comes_234 : decode cX9_comes 234 = .ok (.iconst 1, 1) := by decide +kernel
theorem dX9_comes_235 : decode cX9_comes 235 = .ok (.ireturn, 1) := by decide +kernel
theorem dX9_comes_236 : decode cX9_comes 236 = .ok (.iload_n 2, 1) := by decide +kernel
theorem dX9_comes_237 : decode cX9_comes 237 = .ok (.iconst 2, 1) := by decide +kernel
theorem dX9_comes_238 : decode cX9_comes 238 = .ok (.if_icmp .le 5, 3) := by decide +kernel
theorem dX9_comes_241 : decode cX9_comes 241 = .ok (.iconst 0, 1) := by decide +kernel
theorem dX9_comes_242 : decode cX9_comes 242 = .ok (.ireturn, 1) := by decide +kernel
theorem dX9_comes_243 : decode cX9_comes 243 = .ok (.aload_n 0, 1) := by decide +kernel
theorem dX9_comes_244 : decode cX9_comes 244 = .ok (.iload_n 2, 1) := by decide +kernel
theorem dX9_comes_245 : decode cX9_comes 245 = .ok (.putfield 129, 3) := by decide +kernel
theorem dX9_comes_248 : decode cX9_comes 248 = .ok (.iconst 1, 1) := by decide +kernel
theorem dX9_comes_249 : decode cX9_comes 249 = .ok (.ireturn, 1) := by decide +kernel
theorem dX9_party_0 : decode cX9_party 0 = .ok (.aload_n 0, 1) := by decide +kernel
theorem dX9_party_1 : decode cX9_party 1 = .ok (.iconst 0, 1) := by decide +kernel
theorem dX9_party_2 : decode cX9_party 2 = .ok (.putfield 144, 3) := by decide +kernel
theorem dX9_party_5 : decode cX9_party 5 = .ok (.aload_n 0, 1) := by decide +kernel
theorem dX9_party_6 : decode cX9_party 6 = .ok (.iconst 0, 1) := by decide +kernel
theorem dX9_party_7 : decode cX9_party 7 = .ok (.putfield 150, 3) := by decide +kernel
theorem dX9_party_10 : decode cX9_party 10 = .ok (.iconst 1, 1) := by decide +kernel
theorem dX9_party_11 : decode cX9_party 11 = .ok (.istore_n 1, 1) := by decide +kernel
theorem dX9_party_12 : decode cX9_party 12 = .ok (.iload_n 1, 1) := by decide +kernel
theorem dX9_party_13 : decode cX9_party 13 = .ok (.ifCond .eq 47, 3) := by decide +kernel
theorem dX9_party_16 : decode cX9_party 16 = .ok (.aload_n 0, 1) := by decide +kernel
theorem dX9_party_17 : decode cX9_party 17 = .ok (.getfield 144, 3) := by decide +kernel
theorem dX9_party_20 : decode cX9_party 20 = .ok (.aload_n 0, 1) := by decide +kernel
theorem dX9_party_21 : decode cX9_party 21 = .ok (.getfield 139, 3) := by decide +kernel
theorem dX9_party_24 : decode cX9_party 24 = .ok (.if_icmp .lt 10, 3) := by decide +kernel
theorem dX9_party_27 : decode cX9_party 27 = .ok (.aload_n 0, 1) := by decide +kernel
theorem dX9_party_28 : decode cX9_party 28 = .ok (.getfield 150, 3) := by decide +kernel
theorem dX9_party_31 : decode cX9_party 31 = .ok (.ifCond .ne 29, 3) := by decide +kernel
theorem dX9_party_34 : decode cX9_party 34 = .ok (.aload_n 0, 1) := by decide +kernel
theorem dX9_party_35 : decode cX9_party 35 = .ok (.invokevirtual 159, 3) := by decide +kernel
theorem dX9_party_38 : decode cX9_party 38 = .ok (.istore_n 1, 1) := by decide +kernel
theorem dX9_party_39 : decode cX9_party 39 = .ok (.aload_n 0, 1) := by decide +kernel
theorem dX9_party_40 : decode cX9_party 40 = .ok (.dup, 1) := by decide +kernel
theorem dX9_party_41 : decode cX9_party 41 = .ok (.getfield 150, 3) := by decide +kernel
theorem dX9_party_44 : decode cX9_party 44 = .ok (.iload_n 1, 1) := by decide +kernel
theorem dX9_party_45 : decode cX9_party 45 = .ok (.ifCond .eq 7, 3) := by decide +kernel
theorem dX9_party_48 : decode cX9_party 48 = .ok (.iconst 1, 1) := by decide +kernel
theorem dX9_party_49 : decode cX9_party 49 = .ok (.goto 4, 3) := by decide +kernel
theorem dX9_party_52 : decode cX9_party 52 = .ok (.iconst 0, 1) := by decide +kernel
theorem dX9_party_53 : decode cX9_party 53 = .ok (.iadd, 1) := by decide +kernel
theorem dX9_party_54 : decode cX9_party 54 = .ok (.putfield 150, 3) := by decide +kernel
theorem dX9_party_57 : decode cX9_party 57 = .ok (.goto (-45), 3) := by decide +kernel
theorem dX9_party_60 : decode cX9_party 60 = .ok (.aload_n 0, 1) := by decide +kernel
theorem dX9_party_61 : decode cX9_party 61 = .ok (.iconst 0, 1) := by decide +kernel
theorem dX9_party_62 : decode cX9_party 62 = .ok (.putfield 139, 3) := by decide +kernel
theorem dX9_party_65 : decode cX9_party 65 = .ok (.iload_n 1, 1) := by decide +kernel
theorem dX9_party_66 : decode cX9_party 66 = .ok (.ifCond .ne 12, 3) := by decide +kernel
theorem dX9_party_69 : decode cX9_party 69 = .ok (.sipush (-1000), 3) := by decide +kernel
theorem dX9_party_72 : decode cX9_party 72 = .ok (.aload_n 0, 1) := by decide +kernel
theorem dX9_party_73 : decode cX9_party 73 = .ok (.getfield 144, 3) := by decide +kernel
theorem dX9_party_76 : decode cX9_party 76 = .ok (.isub, 1) := by decide +kernel
theorem dX9_party_77 : decode cX9_party 77 = .ok (.ireturn, 1) := by decide +kernel
theorem dX9_party_78 : decode cX9_party 78 = .ok (.aload_n 0, 1) := by decide +kernel
theorem dX9_party_79 : decode cX9_party 79 = .ok (.iconst 1, 1) := by decide +kernel
theorem dX9_party_80 : decode cX9_party 80 = .ok (.iconst 1, 1) := by decide +kernel
theorem dX9_party_81 : decode cX9_party 81 = .ok (.invokevirtual 163, 3) := by decide +kernel
theorem dX9_party_84 : decode cX9_party 84 = .ok (.iconst 0, 1) := by decide +kernel
theorem dX9_party_85 : decode cX9_party 85 = .ok (.istore_n 2, 1) := by decide +kernel
theorem dX9_party_86 : decode cX9_party 86 = .ok (.iload_n 2, 1) := by decide +kernel
theorem dX9_party_87 : decode cX9_party 87 = .ok (.aload_n 0, 1) := by decide +kernel
theorem dX9_party_88 : decode cX9_party 88 = .ok (.getfield 150, 3) := by decide +kernel
theorem dX9_party_91 : decode cX9_party 91 = .ok (.if_icmp .ge 37, 3) := by decide +kernel
theorem dX9_party_94 : decode cX9_party 94 = .ok (.aload_n 0, 1) := by decide +kernel
theorem dX9_party_95 : decode cX9_party 95 = .ok (.iload_n 2, 1) := by decide +kernel
theorem dX9_party_96 : decode cX9_party 96 = .ok (.invokevirtual 167, 3) := by decide +kernel
theorem dX9_party_99 : decode cX9_party 99 = .ok (.ifCond .eq 6, 3) := by decide +kernel
theorem dX9_party_102 : decode cX9_party 102 = .ok (.goto 20, 3) := by decide +kernel
theorem dX9_party_105 : decode cX9_party 105 = .ok (.aload_n 0, 1) := by decide +kernel
theorem dX9_party_106 : decode cX9_party 106 = .ok (.iconst 1, 1) := by decide +kernel
theorem dX9_party_107 : decode cX9_party 107 = .ok (.iconst 0, 1) := by decide +kernel
theorem dX9_party_108 : decode cX9_party 108 = .ok (.invokevirtual 163, 3) := by decide +kernel
theorem dX9_party_111 : decode cX9_party 111 = .ok (.sipush (-2000), 3) := by decide +kernel
theorem dX9_party_114 : decode cX9_party 114 = .ok (.aload_n 0, 1) := by decide +kernel
theorem dX9_party_115 : decode cX9_party 115 = .ok (.getfield 59, 3) := by decide +kernel
theorem dX9_party_118 : decode cX9_party 118 = .ok (.iload_n 2, 1) := by decide +kernel
theorem dX9_party_119 : decode cX9_party 119 = .ok (.iaload, 1) := by decide +kernel
theorem dX9_party_120 : decode cX9_party 120 = .ok (.isub, 1) := by decide +kernel
theorem dX9_party_121 : decode cX9_party 121 = .ok (.ireturn, 1) := by decide +kernel
theorem dX9_party_122 : decode cX9_party 122 = .ok (.iinc 2 1, 3) := by decide +kernel
theorem dX9_party_125 : decode cX9_party 125 = .ok (.goto (-39), 3) := by decide +kernel
theorem dX9_party_128 : decode cX9_party 128 = .ok (.aload_n 0, 1) := by decide +kernel
theorem dX9_party_129 : decode cX9_party 129 = .ok (.getfield 150, 3) := by decide +kernel
theorem dX9_party_132 : decode cX9_party 132 = .ok (.ireturn, 1) := by decide +kernel
theorem dX9_passes_0 : decode cX9_passes 0 = .ok (.iconst 0, 1) := by decide +kernel
theorem dX9_passes_1 : decode cX9_passes 1 = .ok (.istore_n 2, 1) := by decide +kernel
theorem dX9_passes_2 : decode cX9_passes 2 = .ok (.iload_n 2, 1) := by decide +kernel
theorem dX9_passes_3 : decode cX9_passes 3 = .ok (.aload_n 1, 1) := by decide +kernel
theorem dX9_passes_4 : decode cX9_passes 4 = .ok (.arraylength, 1) := by decide +kernel
theorem dX9_passes_5 : decode cX9_passes 5 = .ok (.if_icmp .ge 53, 3) := by decide +kernel
theorem dX9_passes_8 : decode cX9_passes 8 = .ok (.aload_n 0, 1) := by decide +kernel
theorem dX9_passes_9 : decode cX9_passes 9 = .ok (.getfield 170, 3) := by decide +kernel
theorem dX9_passes_12 : decode cX9_passes 12 = .ok (.ifCond .eq 18, 3) := by decide +kernel
theorem dX9_passes_15 : decode cX9_passes 15 = .ok (.aload_n 0, 1) := by decide +kernel
theorem dX9_passes_16 : decode cX9_passes 16 = .ok (.getfield 71, 3) := by decide +kernel
theorem dX9_passes_19 : decode cX9_passes 19 = .ok (.aload_n 0, 1) := by decide +kernel
theorem dX9_passes_20 : decode cX9_passes 20 = .ok (.getfield 174, 3) := by decide +kernel
theorem dX9_passes_23 : decode cX9_passes 23 = .ok (.aload_n 1, 1) := by decide +kernel
theorem dX9_passes_24 : decode cX9_passes 24 = .ok (.iload_n 2, 1) := by decide +kernel
theorem dX9_passes_25 : decode cX9_passes 25 = .ok (.iaload, 1) := by decide +kernel
theorem dX9_passes_26 : decode cX9_passes 26 = .ok (.iastore, 1) := by decide +kernel
theorem dX9_passes_27 : decode cX9_passes 27 = .ok (.goto 15, 3) := by decide +kernel
theorem dX9_passes_30 : decode cX9_passes 30 = .ok (.aload_n 1, 1) := by decide +kernel
theorem dX9_passes_31 : decode cX9_passes 31 = .ok (.iload_n 2, 1) := by decide +kernel
theorem dX9_passes_32 : decode cX9_passes 32 = .ok (.aload_n 0, 1) := by decide +kernel
theorem dX9_passes_33 : decode cX9_passes 33 = .ok (.getfield 71, 3) := by decide +kernel
theorem dX9_passes_36 : decode cX9_passes 36 = .ok (.aload_n 0, 1) := by decide +kernel
theorem dX9_passes_37 : decode cX9_passes 37 = .ok (.getfield 174, 3) := by decide +kernel
theorem dX9_passes_40 : decode cX9_passes 40 = .ok (.iaload, 1) := by decide +kernel
theorem dX9_passes_41 : decode cX9_passes 41 = .ok (.iastore, 1) := by decide +kernel
theorem dX9_passes_42 : decode cX9_passes 42 = .ok (.aload_n 0, 1) := by decide +kernel
theorem dX9_passes_43 : decode cX9_passes 43 = .ok (.dup, 1) := by decide +kernel
theorem dX9_passes_44 : decode cX9_passes 44 = .ok (.getfield 174, 3) := by decide +kernel
theorem dX9_passes_47 : decode cX9_passes 47 = .ok (.iconst 1, 1) := by decide +kernel
theorem dX9_passes_48 : decode cX9_passes 48 = .ok (.iadd, 1) := by decide +kernel
theorem dX9_passes_49 : decode cX9_passes 49 = .ok (.putfield 174, 3) := by decide +kernel
theorem dX9_passes_52 : decode cX9_passes 52 = .ok (.iinc 2 1, 3) := by decide +kernel
theorem dX9_passes_55 : decode cX9_passes 55 = .ok (.goto (-53), 3) := by decide +kernel
theorem dX9_passes_58 : decode cX9_passes 58 = .ok (.return_, 1) := by decide +kernel
theorem dX9_passOne_0 : decode cX9_passOne 0 = .ok (.aload_n 0, 1) := by decide +kernel
theorem dX9_passOne_1 : decode cX9_passOne 1 = .ok (.getfield 170, 3) := by decide +kernel
theorem dX9_passOne_4 : decode cX9_passOne 4 = .ok (.ifCond .eq 7, 3) := by decide +kernel
theorem dX9_passOne_7 : decode cX9_passOne 7 = .ok (.iload_n 1, 1) := by decide +kernel
theorem dX9_passOne_8 : decode cX9_passOne 8 = .ok (.goto 12, 3) := by decide +kernel
theorem dX9_passOne_11 : decode cX9_passOne 11 = .ok (.aload_n 0, 1) := by decide +kernel
theorem dX9_passOne_12 : decode cX9_passOne 12 = .ok (.getfield 71, 3) := by decide +kernel
theorem dX9_passOne_15 : decode cX9_passOne 15 = .ok (.aload_n 0, 1) := by decide +kernel
theorem dX9_passOne_16 : decode cX9_passOne 16 = .ok (.getfield 174, 3) := by decide +kernel
theorem dX9_passOne_19 : decode cX9_passOne 19 = .ok (.iaload, 1) := by decide +kernel
theorem dX9_passOne_20 : decode cX9_passOne 20 = .ok (.istore_n 2, 1) := by decide +kernel
theorem dX9_passOne_21 : decode cX9_passOne 21 = .ok (.aload_n 0, 1) := by decide +kernel
theorem dX9_passOne_22 : decode cX9_passOne 22 = .ok (.getfield 170, 3) := by decide +kernel
theorem dX9_passOne_25 : decode cX9_passOne 25 = .ok (.ifCond .eq 13, 3) := by decide +kernel
theorem dX9_passOne_28 : decode cX9_passOne 28 = .ok (.aload_n 0, 1) := by decide +kernel
theorem dX9_passOne_29 : decode cX9_passOne 29 = .ok (.getfield 71, 3) := by decide +kernel
theorem dX9_passOne_32 : decode cX9_passOne 32 = .ok (.aload_n 0, 1) := by decide +kernel
theorem dX9_passOne_33 : decode cX9_passOne 33 = .ok (.getfield 174, 3) := by decide +kernel
theorem dX9_passOne_36 : decode cX9_passOne 36 = .ok (.iload_n 1, 1) := by decide +kernel
theorem dX9_passOne_37 : decode cX9_passOne 37 = .ok (.iastore, 1) := by decide +kernel
theorem dX9_passOne_38 : decode cX9_passOne 38 = .ok (.aload_n 0, 1) := by decide +kernel
theorem dX9_passOne_39 : decode cX9_passOne 39 = .ok (.dup, 1) := by decide +kernel
theorem dX9_passOne_40 : decode cX9_passOne 40 = .ok (.getfield 174, 3) := by decide +kernel
theorem dX9_passOne_43 : decode cX9_passOne 43 = .ok (.iconst 1, 1) := by decide +kernel
theorem dX9_passOne_44 : decode cX9_passOne 44 = .ok (.iadd, 1) := by decide +kernel
theorem dX9_passOne_45 : decode cX9_passOne 45 = .ok (.putfield 174, 3) := by decide +kernel
theorem dX9_passOne_48 : decode cX9_passOne 48 = .ok (.iload_n 2, 1) := by decide +kernel
theorem dX9_passOne_49 : decode cX9_passOne 49 = .ok (.ireturn, 1) := by decide +kernel
theorem dX9_passesAll_0 : decode cX9_passesAll 0 = .ok (.aload_n 0, 1) := by decide +kernel
theorem dX9_passesAll_1 : decode cX9_passesAll 1 = .ok (.sipush 200, 3) := by decide +kernel
theorem dX9_passesAll_4 : decode cX9_passesAll 4 = .ok (.iload_n 1, 1) := by decide +kernel
theorem dX9_passesAll_5 : decode cX9_passesAll 5 = .ok (.imul, 1) := by decide +kernel
theorem dX9_passesAll_6 : decode cX9_passesAll 6 = .ok (.putfield 174, 3) := by decide +kernel
theorem dX9_passesAll_9 : decode cX9_passesAll 9 = .ok (.aload_n 0, 1) := by decide +kernel
theorem dX9_passesAll_10 : decode cX9_passesAll 10 = .ok (.iload_n 2, 1) := by decide +kernel
theorem dX9_passesAll_11 : decode cX9_passesAll 11 = .ok (.putfield 170, 3) := by decide +kernel
theorem dX9_passesAll_14 : decode cX9_passesAll 14 = .ok (.aload_n 0, 1) := by decide +kernel
theorem dX9_passesAll_15 : decode cX9_passesAll 15 = .ok (.aload_n 0, 1) := by decide +kernel
theorem dX9_passesAll_16 : decode cX9_passesAll 16 = .ok (.getfield 13, 3) := by decide +kernel
theorem dX9_passesAll_19 : decode cX9_passesAll 19 = .ok (.invokevirtual 177, 3) := by decide +kernel
theorem dX9_passesAll_22 : decode cX9_passesAll 22 = .ok (.aload_n 0, 1) := by decide +kernel
theorem dX9_passesAll_23 : decode cX9_passesAll 23 = .ok (.aload_n 0, 1) := by decide +kernel
theorem dX9_passesAll_24 : decode cX9_passesAll 24 = .ok (.getfield 16, 3) := by decide +kernel
theorem dX9_passesAll_27 : decode cX9_passesAll 27 = .ok (.invokevirtual 177, 3) := by decide +kernel
theorem dX9_passesAll_30 : decode cX9_passesAll 30 = .ok (.aload_n 0, 1) := by decide +kernel
theorem dX9_passesAll_31 : decode cX9_passesAll 31 = .ok (.aload_n 0, 1) := by decide +kernel
theorem dX9_passesAll_32 : decode cX9_passesAll 32 = .ok (.getfield 19, 3) := by decide +kernel
theorem dX9_passesAll_35 : decode cX9_passesAll 35 = .ok (.invokevirtual 177, 3) := by decide +kernel
theorem dX9_passesAll_38 : decode cX9_passesAll 38 = .ok (.aload_n 0, 1) := by decide +kernel
theorem dX9_passesAll_39 : decode cX9_passesAll 39 = .ok (.aload_n 0, 1) := by decide +kernel
theorem dX9_passesAll_40 : decode cX9_passesAll 40 = .ok (.getfield 22, 3) := by decide +kernel
theorem dX9_passesAll_43 : decode cX9_passesAll 43 = .ok (.invokevirtual 177, 3) := by decide +kernel
theorem dX9_passesAll_46 : decode cX9_passesAll 46 = .ok (.aload_n 0, 1) := by decide +kernel
theorem dX9_passesAll_47 : decode cX9_passesAll 47 = .ok (.aload_n 0, 1) := by decide +kernel
theorem dX9_passesAll_48 : decode cX9_passesAll 48 = .ok (.getfield 25, 3) := by decide +kernel
theorem dX9_passesAll_51 : decode cX9_passesAll 51 = .ok (.invokevirtual 177, 3) := by decide +kernel
theorem dX9_passesAll_54 : decode cX9_passesAll 54 = .ok (.aload_n 0, 1) := by decide +kernel
theorem dX9_passesAll_55 : decode cX9_passesAll 55 = .ok (.aload_n 0, 1) := by decide +kernel
theorem dX9_passesAll_56 : decode cX9_passesAll 56 = .ok (.getfield 28, 3) := by decide +kernel
theorem dX9_passesAll_59 : decode cX9_passesAll 59 = .ok (.invokevirtual 177, 3) := by decide +kernel
theorem dX9_passesAll_62 : decode cX9_passesAll 62 = .ok (.aload_n 0, 1) := by decide +kernel
theorem dX9_passesAll_63 : decode cX9_passesAll 63 = .ok (.aload_n 0, 1) := by decide +kernel
theorem dX9_passesAll_64 : decode cX9_passesAll 64 = .ok (.getfield 31, 3) := by decide +kernel
theorem dX9_passesAll_67 : decode cX9_passesAll 67 = .ok (.invokevirtual 177, 3) := by decide +kernel
theorem dX9_passesAll_70 : decode cX9_passesAll 70 = .ok (.aload_n 0, 1) := by decide +kernel
theorem dX9_passesAll_71 : decode cX9_passesAll 71 = .ok (.aload_n 0, 1) := by decide +kernel
theorem dX9_passesAll_72 : decode cX9_passesAll 72 = .ok (.getfield 34, 3) := by decide +kernel
theorem dX9_passesAll_75 : decode cX9_passesAll 75 = .ok (.invokevirtual 177, 3) := by decide +kernel
theorem dX9_passesAll_78 : decode cX9_passesAll 78 = .ok (.aload_n 0, 1) := by decide +kernel
theorem dX9_passesAll_79 : decode cX9_passesAll 79 = .ok (.aload_n 0, 1) := by decide +kernel
theorem dX9_passesAll_80 : decode cX9_passesAll 80 = .ok (.getfield 37, 3) := by decide +kernel
theorem dX9_passesAll_83 : decode cX9_passesAll 83 = .ok (.invokevirtual 177, 3) := by decide +kernel
theorem dX9_passesAll_86 : decode cX9_passesAll 86 = .ok (.aload_n 0, 1) := by decide +kernel
theorem dX9_passesAll_87 : decode cX9_passesAll 87 = .ok (.aload_n 0, 1) := by decide +kernel
theorem dX9_passesAll_88 : decode cX9_passesAll 88 = .ok (.getfield 40, 3) := by decide +kernel
theorem dX9_passesAll_91 : decode cX9_passesAll 91 = .ok (.invokevirtual 177, 3) := by decide +kernel
theorem dX9_passesAll_94 : decode cX9_passesAll 94 = .ok (.aload_n 0, 1) := by decide +kernel
theorem dX9_passesAll_95 : decode cX9_passesAll 95 = .ok (.aload_n 0, 1) := by decide +kernel
theorem dX9_passesAll_96 : decode cX9_passesAll 96 = .ok (.aload_n 0, 1) := by decide +kernel
theorem dX9_passesAll_97 : decode cX9_passesAll 97 = .ok (.getfield 43, 3) := by decide +kernel
theorem dX9_passesAll_100 : decode cX9_passesAll 100 = .ok (.invokevirtual 181, 3) := by decide +kernel
theorem dX9_passesAll_103 : decode cX9_passesAll 103 = .ok (.putfield 43, 3) := by decide +kernel
theorem dX9_passesAll_106 : decode cX9_passesAll 106 = .ok (.aload_n 0, 1) := by decide +kernel
theorem dX9_passesAll_107 : decode cX9_passesAll 107 = .ok (.aload_n 0, 1) := by decide +kernel
theorem dX9_passesAll_108 : decode cX9_passesAll 108 = .ok (.aload_n 0, 1) := by decide +kernel
theorem dX9_passesAll_109 : decode cX9_passesAll 109 = .ok (.getfield 86, 3) := by decide +kernel
theorem dX9_passesAll_112 : decode cX9_passesAll 112 = .ok (.invokevirtual 181, 3) := by decide +kernel
theorem dX9_passesAll_115 : decode cX9_passesAll 115 = .ok (.putfield 86, 3) := by decide +kernel
theorem dX9_passesAll_118 : decode cX9_passesAll 118 = .ok (.aload_n 0, 1) := by decide +kernel
theorem dX9_passesAll_119 : decode cX9_passesAll 119 = .ok (.aload_n 0, 1) := by decide +kernel
theorem dX9_passesAll_120 : decode cX9_passesAll 120 = .ok (.aload_n 0, 1) := by decide +kernel
theorem dX9_passesAll_121 : decode cX9_passesAll 121 = .ok (.getfield 126, 3) := by decide +kernel
theorem dX9_passesAll_124 : decode cX9_passesAll 124 = .ok (.invokevirtual 181, 3) := by decide +kernel
theorem dX9_passesAll_127 : decode cX9_passesAll 127 = .ok (.putfield 126, 3) := by decide +kernel
theorem dX9_passesAll_130 : decode cX9_passesAll 130 = .ok (.aload_n 0, 1) := by decide +kernel
theorem dX9_passesAll_131 : decode cX9_passesAll 131 = .ok (.aload_n 0, 1) := by decide +kernel
theorem dX9_passesAll_132 : decode cX9_passesAll 132 = .ok (.aload_n 0, 1) := by decide +kernel
theorem dX9_passesAll_133 : decode cX9_passesAll 133 = .ok (.getfield 47, 3) := by decide +kernel
theorem dX9_passesAll_136 : decode cX9_passesAll 136 = .ok (.invokevirtual 181, 3) := by decide +kernel
theorem dX9_passesAll_139 : decode cX9_passesAll 139 = .ok (.putfield 47, 3) := by decide +kernel
theorem dX9_passesAll_142 : decode cX9_passesAll 142 = .ok (.aload_n 0, 1) := by decide +kernel
theorem dX9_passesAll_143 : decode cX9_passesAll 143 = .ok (.aload_n 0, 1) := by decide +kernel
theorem dX9_passesAll_144 : decode cX9_passesAll 144 = .ok (.aload_n 0, 1) := by decide +kernel
theorem dX9_passesAll_145 : decode cX9_passesAll 145 = .ok (.getfield 129, 3) := by decide +kernel
theorem dX9_passesAll_148 : decode cX9_passesAll 148 = .ok (.invokevirtual 181, 3) := by decide +kernel
theorem dX9_passesAll_151 : decode cX9_passesAll 151 = .ok (.putfield 129, 3) := by decide +kernel
theorem dX9_passesAll_154 : decode cX9_passesAll 154 = .ok (.aload_n 0, 1) := by decide +kernel
theorem dX9_passesAll_155 : decode cX9_passesAll 155 = .ok (.aload_n 0, 1) := by decide +kernel
theorem dX9_passesAll_156 : decode cX9_passesAll 156 = .ok (.aload_n 0, 1) := by decide +kernel
theorem dX9_passesAll_157 : decode cX9_passesAll 157 = .ok (.getfield 50, 3) := by decide +kernel
theorem dX9_passesAll_160 : decode cX9_passesAll 160 = .ok (.invokevirtual 181, 3) := by decide +kernel
theorem dX9_passesAll_163 : decode cX9_passesAll 163 = .ok (.putfield 50, 3) := by decide +kernel
theorem dX9_passesAll_166 : decode cX9_passesAll 166 = .ok (.aload_n 0, 1) := by decide +kernel
theorem dX9_passesAll_167 : decode cX9_passesAll 167 = .ok (.aload_n 0, 1) := by decide +kernel
theorem dX9_passesAll_168 : decode cX9_passesAll 168 = .ok (.aload_n 0, 1) := by decide +kernel
theorem dX9_passesAll_169 : decode cX9_passesAll 169 = .ok (.getfield 184, 3) := by decide +kernel
theorem dX9_passesAll_172 : decode cX9_passesAll 172 = .ok (.invokevirtual 181, 3) := by decide +kernel
theorem dX9_passesAll_175 : decode cX9_passesAll 175 = .ok (.putfield 184, 3) := by decide +kernel
theorem dX9_passesAll_178 : decode cX9_passesAll 178 = .ok (.aload_n 0, 1) := by decide +kernel
theorem dX9_passesAll_179 : decode cX9_passesAll 179 = .ok (.aload_n 0, 1) := by decide +kernel
theorem dX9_passesAll_180 : decode cX9_passesAll 180 = .ok (.aload_n 0, 1) := by decide +kernel
theorem dX9_passesAll_181 : decode cX9_passesAll 181 = .ok (.getfield 187, 3) := by decide +kernel
theorem dX9_passesAll_184 : decode cX9_passesAll 184 = .ok (.invokevirtual 181, 3) := by decide +kernel
theorem dX9_passesAll_187 : decode cX9_passesAll 187 = .ok (.putfield 187, 3) := by decide +kernel
theorem dX9_passesAll_190 : decode cX9_passesAll 190 = .ok (.aload_n 0, 1) := by decide +kernel
theorem dX9_passesAll_191 : decode cX9_passesAll 191 = .ok (.aload_n 0, 1) := by decide +kernel
theorem dX9_passesAll_192 : decode cX9_passesAll 192 = .ok (.aload_n 0, 1) := by decide +kernel
theorem dX9_passesAll_193 : decode cX9_passesAll 193 = .ok (.getfield 89, 3) := by decide +kernel
theorem dX9_passesAll_196 : decode cX9_passesAll 196 = .ok (.invokevirtual 181, 3) := by decide +kernel
theorem dX9_passesAll_199 : decode cX9_passesAll 199 = .ok (.putfield 89, 3) := by decide +kernel
theorem dX9_passesAll_202 : decode cX9_passesAll 202 = .ok (.return_, 1) := by decide +kernel
theorem dX9_walks_0 : decode cX9_walks 0 = .ok (.iconst 0, 1) := by decide +kernel
theorem dX9_walks_1 : decode cX9_walks 1 = .ok (.istore_n 1, 1) := by decide +kernel
theorem dX9_walks_2 : decode cX9_walks 2 = .ok (.iload_n 1, 1) := by decide +kernel
theorem dX9_walks_3 : decode cX9_walks 3 = .ok (.aload_n 0, 1) := by decide +kernel
theorem dX9_walks_4 : decode cX9_walks 4 = .ok (.getfield 86, 3) := by decide +kernel
theorem dX9_walks_7 : decode cX9_walks 7 = .ok (.if_icmp .ge 125, 3) := by decide +kernel
theorem dX9_walks_10 : decode cX9_walks 10 = .ok (.aload_n 0, 1) := by decide +kernel
theorem dX9_walks_11 : decode cX9_walks 11 = .ok (.getfield 22, 3) := by decide +kernel
theorem dX9_walks_14 : decode cX9_walks 14 = .ok (.iload_n 1, 1) := by decide +kernel
theorem dX9_walks_15 : decode cX9_walks 15 = .ok (.iaload, 1) := by decide +kernel
theorem dX9_walks_16 : decode cX9_walks 16 = .ok (.ifCond .ne 6, 3) := by decide +kernel
theorem dX9_walks_19 : decode cX9_walks 19 = .ok (.goto 107, 3) := by decide +kernel
theorem dX9_walks_22 : decode cX9_walks 22 = .ok (.aload_n 0, 1) := by decide +kernel
theorem dX9_walks_23 : decode cX9_walks 23 = .ok (.getfield 19, 3) := by decide +kernel
theorem dX9_walks_26 : decode cX9_walks 26 = .ok (.iload_n 1, 1) := by decide +kernel
theorem dX9_walks_27 : decode cX9_walks 27 = .ok (.dup2, 1) := by decide +kernel
theorem dX9_walks_28 : decode cX9_walks 28 = .ok (.iaload, 1) := by decide +kernel
theorem dX9_walks_29 : decode cX9_walks 29 = .ok (.aload_n 0, 1) := by decide +kernel
theorem dX9_walks_30 : decode cX9_walks 30 = .ok (.getfield 13, 3) := by decide +kernel
theorem dX9_walks_33 : decode cX9_walks 33 = .ok (.aload_n 0, 1) := by decide +kernel
theorem dX9_walks_34 : decode cX9_walks 34 = .ok (.getfield 16, 3) := by decide +kernel
theorem dX9_walks_37 : decode cX9_walks 37 = .ok (.iload_n 1, 1) := by decide +kernel
theorem dX9_walks_38 : decode cX9_walks 38 = .ok (.iaload, 1) := by decide +kernel
theorem dX9_walks_39 : decode cX9_walks 39 = .ok (.iaload, 1) := by decide +kernel
theorem dX9_walks_40 : decode cX9_walks 40 = .ok (.iconst 1, 1) := by decide +kernel
theorem dX9_walks_41 : decode cX9_walks 41 = .ok (.if_icmp .ne 12, 3) := by decide +kernel
theorem dX9_walks_44 : decode cX9_walks 44 = .ok (.aload_n 0, 1) := by decide +kernel
theorem dX9_walks_45 : decode cX9_walks 45 = .ok (.getfield 31, 3) := by decide +kernel
theorem dX9_walks_48 : decode cX9_walks 48 = .ok (.iload_n 1, 1) := by decide +kernel
theorem dX9_walks_49 : decode cX9_walks 49 = .ok (.iaload, 1) := by decide +kernel
theorem dX9_walks_50 : decode cX9_walks 50 = .ok (.goto 9, 3) := by decide +kernel
theorem dX9_walks_53 : decode cX9_walks 53 = .ok (.aload_n 0, 1) := by decide +kernel
theorem dX9_walks_54 : decode cX9_walks 54 = .ok (.getfield 28, 3) := by decide +kernel
theorem dX9_walks_57 : decode cX9_walks 57 = .ok (.iload_n 1, 1) := by decide +kernel
theorem dX9_walks_58 : decode cX9_walks 58 = .ok (.iaload, 1) := by decide +kernel
theorem dX9_walks_59 : decode cX9_walks 59 = .ok (.iadd, 1) := by decide +kernel
theorem dX9_walks_60 : decode cX9_walks 60 = .ok (.iastore, 1) := by decide +kernel
theorem dX9_walks_61 : decode cX9_walks 61 = .ok (.aload_n 0, 1) := by decide +kernel
theorem dX9_walks_62 : decode cX9_walks 62 = .ok (.getfield 19, 3) := by decide +kernel
theorem dX9_walks_65 : decode cX9_walks 65 = .ok (.iload_n 1, 1) := by decide +kernel
theorem dX9_walks_66 : decode cX9_walks 66 = .ok (.iaload, 1) := by decide +kernel
theorem dX9_walks_67 : decode cX9_walks 67 = .ok (.bipush 100, 2) := by decide +kernel
theorem dX9_walks_69 : decode cX9_walks 69 = .ok (.if_icmp .ge 6, 3) := by decide +kernel
theorem dX9_walks_72 : decode cX9_walks 72 = .ok (.goto 54, 3) := by decide +kernel
theorem dX9_walks_75 : decode cX9_walks 75 = .ok (.aload_n 0, 1) := by decide +kernel
theorem dX9_walks_76 : decode cX9_walks 76 = .ok (.getfield 16, 3) := by decide +kernel
theorem dX9_walks_79 : decode cX9_walks 79 = .ok (.iload_n 1, 1) := by decide +kernel
theorem dX9_walks_80 : decode cX9_walks 80 = .ok (.iaload, 1) := by decide +kernel
theorem dX9_walks_81 : decode cX9_walks 81 = .ok (.iconst 1, 1) := by decide +kernel
theorem dX9_walks_82 : decode cX9_walks 82 = .ok (.iadd, 1) := by decide +kernel
theorem dX9_walks_83 : decode cX9_walks 83 = .ok (.aload_n 0, 1) := by decide +kernel
theorem dX9_walks_84 : decode cX9_walks 84 = .ok (.getfield 43, 3) := by decide +kernel
theorem dX9_walks_87 : decode cX9_walks 87 = .ok (.irem, 1) := by decide +kernel
theorem dX9_walks_88 : decode cX9_walks 88 = .ok (.istore_n 2, 1) := by decide +kernel
theorem dX9_walks_89 : decode cX9_walks 89 = .ok (.aload_n 0, 1) := by decide +kernel
theorem dX9_walks_90 : decode cX9_walks 90 = .ok (.iload_n 2, 1) := by decide +kernel
theorem dX9_walks_91 : decode cX9_walks 91 = .ok (.invokevirtual 116, 3) := by decide +kernel
theorem dX9_walks_94 : decode cX9_walks 94 = .ok (.ifCond .eq 14, 3) := by decide +kernel
theorem dX9_walks_97 : decode cX9_walks 97 = .ok (.aload_n 0, 1) := by decide +kernel
theorem dX9_walks_98 : decode cX9_walks 98 = .ok (.getfield 19, 3) := by decide +kernel
theorem dX9_walks_101 : decode cX9_walks 101 = .ok (.iload_n 1, 1) := by decide +kernel
theorem dX9_walks_102 : decode cX9_walks 102 = .ok (.bipush 99, 2) := by decide +kernel
theorem dX9_walks_104 : decode cX9_walks 104 = .ok (.iastore, 1) := by decide +kernel
theorem dX9_walks_105 : decode cX9_walks 105 = .ok (.goto 21, 3) := by decide +kernel
theorem dX9_walks_108 : decode cX9_walks 108 = .ok (.aload_n 0, 1) := by decide +kernel
theorem dX9_walks_109 : decode cX9_walks 109 = .ok (.getfield 16, 3) := by decide +kernel
theorem dX9_walks_112 : decode cX9_walks 112 = .ok (.iload_n 1, 1) := by decide +kernel
theorem dX9_walks_113 : decode cX9_walks 113 = .ok (.iload_n 2, 1) := by decide +kernel
theorem dX9_walks_114 : decode cX9_walks 114 = .ok (.iastore, 1) := by decide +kernel
theorem dX9_walks_115 : decode cX9_walks 115 = .ok (.aload_n 0, 1) := by decide +kernel
theorem dX9_walks_116 : decode cX9_walks 116 = .ok (.getfield 19, 3) := by decide +kernel
theorem dX9_walks_119 : decode cX9_walks 119 = .ok (.iload_n 1, 1) := by decide +kernel
theorem dX9_walks_120 : decode cX9_walks 120 = .ok (.dup2, 1) := by decide +kernel
theorem dX9_walks_121 : decode cX9_walks 121 = .ok (.iaload, 1) := by decide +kernel
theorem dX9_walks_122 : decode cX9_walks 122 = .ok (.bipush 100, 2) := by decide +kernel
theorem dX9_walks_124 : decode cX9_walks 124 = .ok (.isub, 1) := by decide +kernel
theorem dX9_walks_125 : decode cX9_walks 125 = .ok (.iastore, 1) := by decide +kernel
theorem dX9_walks_126 : decode cX9_walks 126 = .ok (.iinc 1 1, 3) := by decide +kernel
theorem dX9_walks_129 : decode cX9_walks 129 = .ok (.goto (-127), 3) := by decide +kernel
theorem dX9_walks_132 : decode cX9_walks 132 = .ok (.return_, 1) := by decide +kernel
theorem dX9_isSeat_0 : decode cX9_isSeat 0 = .ok (.iconst 0, 1) := by decide +kernel
theorem dX9_isSeat_1 : decode cX9_isSeat 1 = .ok (.istore_n 2, 1) := by decide +kernel
theorem dX9_isSeat_2 : decode cX9_isSeat 2 = .ok (.iload_n 2, 1) := by decide +kernel
theorem dX9_isSeat_3 : decode cX9_isSeat 3 = .ok (.aload_n 0, 1) := by decide +kernel
theorem dX9_isSeat_4 : decode cX9_isSeat 4 = .ok (.getfield 86, 3) := by decide +kernel
theorem dX9_isSeat_7 : decode cX9_isSeat 7 = .ok (.if_icmp .ge 21, 3) := by decide +kernel
theorem dX9_isSeat_10 : decode cX9_isSeat 10 = .ok (.aload_n 0, 1) := by decide +kernel
theorem dX9_isSeat_11 : decode cX9_isSeat 11 = .ok (.getfield 74, 3) := by decide +kernel
theorem dX9_isSeat_14 : decode cX9_isSeat 14 = .ok (.iload_n 2, 1) := by decide +kernel
theorem dX9_isSeat_15 : decode cX9_isSeat 15 = .ok (.iaload, 1) := by decide +kernel
theorem dX9_isSeat_16 : decode cX9_isSeat 16 = .ok (.iload_n 1, 1) := by decide +kernel
theorem dX9_isSeat_17 : decode cX9_isSeat 17 = .ok (.if_icmp .ne 5, 3) := by decide +kernel
theorem dX9_isSeat_20 : decode cX9_isSeat 20 = .ok (.iconst 1, 1) := by decide +kernel
theorem dX9_isSeat_21 : decode cX9_isSeat 21 = .ok (.ireturn, 1) := by decide +kernel
theorem dX9_isSeat_22 : decode cX9_isSeat 22 = .ok (.iinc 2 1, 3) := by decide +kernel
theorem dX9_isSeat_25 : decode cX9_isSeat 25 = .ok (.goto (-23), 3) := by decide +kernel
theorem dX9_isSeat_28 : decode cX9_isSeat 28 = .ok (.iconst 0, 1) := by decide +kernel
theorem dX9_isSeat_29 : decode cX9_isSeat 29 = .ok (.ireturn, 1) := by decide +kernel
theorem dX9_mayReach_0 : decode cX9_mayReach 0 = .ok (.aload_n 0, 1) := by decide +kernel
theorem dX9_mayReach_1 : decode cX9_mayReach 1 = .ok (.aload_n 0, 1) := by decide +kernel
theorem dX9_mayReach_2 : decode cX9_mayReach 2 = .ok (.getfield 16, 3) := by decide +kernel
theorem dX9_mayReach_5 : decode cX9_mayReach 5 = .ok (.iload_n 1, 1) := by decide +kernel
theorem dX9_mayReach_6 : decode cX9_mayReach 6 = .ok (.iaload, 1) := by decide +kernel
theorem dX9_mayReach_7 : decode cX9_mayReach 7 = .ok (.iload_n 2, 1) := by decide +kernel
theorem dX9_mayReach_8 : decode cX9_mayReach 8 = .ok (.invokevirtual 132, 3) := by decide +kernel
theorem dX9_mayReach_11 : decode cX9_mayReach 11 = .ok (.aload_n 0, 1) := by decide +kernel
theorem dX9_mayReach_12 : decode cX9_mayReach 12 = .ok (.getfield 34, 3) := by decide +kernel
theorem dX9_mayReach_15 : decode cX9_mayReach 15 = .ok (.iload_n 1, 1) := by decide +kernel
theorem dX9_mayReach_16 : decode cX9_mayReach 16 = .ok (.iaload, 1) := by decide +kernel
theorem dX9_mayReach_17 : decode cX9_mayReach 17 = .ok (.if_icmp .gt 7, 3) := by decide +kernel
theorem dX9_mayReach_20 : decode cX9_mayReach 20 = .ok (.iconst 1, 1) := by decide +kernel
theorem dX9_mayReach_21 : decode cX9_mayReach 21 = .ok (.goto 4, 3) := by decide +kernel
theorem dX9_mayReach_24 : decode cX9_mayReach 24 = .ok (.iconst 0, 1) := by decide +kernel
theorem dX9_mayReach_25 : decode cX9_mayReach 25 = .ok (.ireturn, 1) := by decide +kernel
theorem dX9_seatsOne_0 : decode cX9_seatsOne 0 = .ok (.iconst (-1), 1) := by decide +kernel
theorem dX9_seatsOne_1 : decode cX9_seatsOne 1 = .ok (.istore_n 1, 1) := by decide +kernel
theorem dX9_seatsOne_2 : decode cX9_seatsOne 2 = .ok (.iconst (-1), 1) := by decide +kernel
theorem dX9_seatsOne_3 : decode cX9_seatsOne 3 = .ok (.istore_n 2, 1) := by decide +kernel
theorem dX9_seatsOne_4 : decode cX9_seatsOne 4 = .ok (.iconst 0, 1) := by decide +kernel
theorem dX9_seatsOne_5 : decode cX9_seatsOne 5 = .ok (.istore_n 3, 1) := by decide +kernel
theorem dX9_seatsOne_6 : decode cX9_seatsOne 6 = .ok (.iload_n 3, 1) := by decide +kernel
theorem dX9_seatsOne_7 : decode cX9_seatsOne 7 = .ok (.aload_n 0, 1) := by decide +kernel
theorem dX9_seatsOne_8 : decode cX9_seatsOne 8 = .ok (.getfield 86, 3) := by decide +kernel
theorem dX9_seatsOne_11 : decode cX9_seatsOne 11 = .ok (.if_icmp .ge 108, 3) := by decide +kernel
theorem dX9_seatsOne_14 : decode cX9_seatsOne 14 = .ok (.aload_n 0, 1) := by decide +kernel
theorem dX9_seatsOne_15 : decode cX9_seatsOne 15 = .ok (.getfield 22, 3) := by decide +kernel
theorem dX9_seatsOne_18 : decode cX9_seatsOne 18 = .ok (.iload_n 3, 1) := by decide +kernel
theorem dX9_seatsOne_19 : decode cX9_seatsOne 19 = .ok (.iaload, 1) := by decide +kernel
theorem dX9_seatsOne_20 : decode cX9_seatsOne 20 = .ok (.ifCond .eq 93, 3) := by decide +kernel
theorem dX9_seatsOne_23 : decode cX9_seatsOne 23 = .ok (.aload_n 0, 1) := by decide +kernel
theorem dX9_seatsOne_24 : decode cX9_seatsOne 24 = .ok (.getfield 74, 3) := by decide +kernel
theorem dX9_seatsOne_27 : decode cX9_seatsOne 27 = .ok (.iload_n 3, 1) := by decide +kernel
theorem dX9_seatsOne_28 : decode cX9_seatsOne 28 = .ok (.iaload, 1) := by decide +kernel
theorem dX9_seatsOne_29 : decode cX9_seatsOne 29 = .ok (.ifCond .lt 6, 3) := by decide +kernel
theorem dX9_seatsOne_32 : decode cX9_seatsOne 32 = .ok (.goto 81, 3) := by decide +kernel
theorem dX9_seatsOne_35 : decode cX9_seatsOne 35 = .ok (.iconst 0, 1) := by decide +kernel
theorem dX9_seatsOne_36 : decode cX9_seatsOne 36 = .ok (.istore 4, 2) := by decide +kernel
theorem dX9_seatsOne_38 : decode cX9_seatsOne 38 = .ok (.iload 4, 2) := by decide +kernel
theorem dX9_seatsOne_40 : decode cX9_seatsOne 40 = .ok (.aload_n 0, 1) := by decide +kernel
theorem dX9_seatsOne_41 : decode cX9_seatsOne 41 = .ok (.getfield 43, 3) := by decide +kernel
theorem dX9_seatsOne_44 : decode cX9_seatsOne 44 = .ok (.if_icmp .ge 69, 3) := by decide +kernel
theorem dX9_seatsOne_47 : decode cX9_seatsOne 47 = .ok (.aload_n 0, 1) := by decide +kernel
theorem dX9_seatsOne_48 : decode cX9_seatsOne 48 = .ok (.getfield 13, 3) := by decide +kernel
theorem dX9_seatsOne_51 : decode cX9_seatsOne 51 = .ok (.iload 4, 2) := by decide +kernel
theorem dX9_seatsOne_53 : decode cX9_seatsOne 53 = .ok (.iaload, 1) := by decide +kernel
theorem dX9_seatsOne_54 : decode cX9_seatsOne 54 = .ok (.ifCond .eq 53, 3) := by decide +kernel
theorem dX9_seatsOne_57 : decode cX9_seatsOne 57 = .ok (.aload_n 0, 1) := by decide +kernel
theorem dX9_seatsOne_58 : decode cX9_seatsOne 58 = .ok (.iload 4, 2) := by decide +kernel
theorem dX9_seatsOne_60 : decode cX9_seatsOne 60 = .ok (.invokevirtual 190, 3) := by decide +kernel
theorem dX9_seatsOne_63 : decode cX9_seatsOne 63 = .ok (.ifCond .ne 44, 3) := by decide +kernel
theorem dX9_seatsOne_66 : decode cX9_seatsOne 66 = .ok (.aload_n 0, 1) := by decide +kernel
theorem dX9_seatsOne_67 : decode cX9_seatsOne 67 = .ok (.iload_n 3, 1) := by decide +kernel
theorem dX9_seatsOne_68 : decode cX9_seatsOne 68 = .ok (.iload 4, 2) := by decide +kernel
theorem dX9_seatsOne_70 : decode cX9_seatsOne 70 = .ok (.invokevirtual 193, 3) := by decide +kernel
theorem dX9_seatsOne_73 : decode cX9_seatsOne 73 = .ok (.ifCond .ne 6, 3) := by decide +kernel
theorem dX9_seatsOne_76 : decode cX9_seatsOne 76 = .ok (.goto 31, 3) := by decide +kernel
theorem dX9_seatsOne_79 : decode cX9_seatsOne 79 = .ok (.iload_n 1, 1) := by decide +kernel
theorem dX9_seatsOne_80 : decode cX9_seatsOne 80 = .ok (.ifCond .lt 22, 3) := by decide +kernel
theorem dX9_seatsOne_83 : decode cX9_seatsOne 83 = .ok (.aload_n 0, 1) := by decide +kernel
theorem dX9_seatsOne_84 : decode cX9_seatsOne 84 = .ok (.iload_n 3, 1) := by decide +kernel
theorem dX9_seatsOne_85 : decode cX9_seatsOne 85 = .ok (.iload 4, 2) := by decide +kernel
theorem dX9_seatsOne_87 : decode cX9_seatsOne 87 = .ok (.invokevirtual 136, 3) := by decide +kernel
theorem dX9_seatsOne_90 : decode cX9_seatsOne 90 = .ok (.aload_n 0, 1) := by decide +kernel
theorem dX9_seatsOne_91 : decode cX9_seatsOne 91 = .ok (.iload_n 1, 1) := by decide +kernel
theorem dX9_seatsOne_92 : decode cX9_seatsOne 92 = .ok (.iload_n 2, 1) := by decide +kernel
theorem dX9_seatsOne_93 : decode cX9_seatsOne 93 = .ok (.invokevirtual 136, 3) := by decide +kernel
theorem dX9_seatsOne_96 : decode cX9_seatsOne 96 = .ok (.if_icmp .lt 6, 3) := by decide +kernel
theorem dX9_seatsOne_99 : decode cX9_seatsOne 99 = .ok (.goto 8, 3) := by decide +kernel
theorem dX9_seatsOne_102 : decode cX9_seatsOne 102 = .ok (.iload_n 3, 1) := by decide +kernel
theorem dX9_seatsOne_103 : decode cX9_seatsOne 103 = .ok (.istore_n 1, 1) := by decide +kernel
theorem dX9_seatsOne_104 : decode cX9_seatsOne 104 = .ok (.iload 4, 2) := by decide +kernel
theorem dX9_seatsOne_106 : decode cX9_seatsOne 106 = .ok (.istore_n 2, 1) := by decide +kernel
theorem dX9_seatsOne_107 : decode cX9_seatsOne 107 = .ok (.iinc 4 1, 3) := by decide +kernel
theorem dX9_seatsOne_110 : decode cX9_seatsOne 110 = .ok (.goto (-72), 3) := by decide +kernel
theorem dX9_seatsOne_113 : decode cX9_seatsOne 113 = .ok (.iinc 3 1, 3) := by decide +kernel
theorem dX9_seatsOne_116 : decode cX9_seatsOne 116 = .ok (.goto (-110), 3) := by decide +kernel
theorem dX9_seatsOne_119 : decode cX9_seatsOne 119 = .ok (.iload_n 1, 1) := by decide +kernel
theorem dX9_seatsOne_120 : decode cX9_seatsOne 120 = .ok (.ifCond .ge 5, 3) := by decide +kernel
theorem dX9_seatsOne_123 : decode cX9_seatsOne 123 = .ok (.iconst 0, 1) := by decide +kernel
theorem dX9_seatsOne_124 : decode cX9_seatsOne 124 = .ok (.ireturn, 1) := by decide +kernel
theorem dX9_seatsOne_125 : decode cX9_seatsOne 125 = .ok (.aload_n 0, 1) := by decide +kernel
theorem dX9_seatsOne_126 : decode cX9_seatsOne 126 = .ok (.getfield 74, 3) := by decide +kernel
theorem dX9_seatsOne_129 : decode cX9_seatsOne 129 = .ok (.iload_n 1, 1) := by decide +kernel
theorem dX9_seatsOne_130 : decode cX9_seatsOne 130 = .ok (.iload_n 2, 1) := by decide +kernel
theorem dX9_seatsOne_131 : decode cX9_seatsOne 131 = .ok (.iastore, 1) := by decide +kernel
theorem dX9_seatsOne_132 : decode cX9_seatsOne 132 = .ok (.iconst 1, 1) := by decide +kernel
theorem dX9_seatsOne_133 : decode cX9_seatsOne 133 = .ok (.ireturn, 1) := by decide +kernel
theorem dX9_judges_0 : decode cX9_judges 0 = .ok (.iconst 0, 1) := by decide +kernel
theorem dX9_judges_1 : decode cX9_judges 1 = .ok (.istore_n 2, 1) := by decide +kernel
theorem dX9_judges_2 : decode cX9_judges 2 = .ok (.iload_n 2, 1) := by decide +kernel
theorem dX9_judges_3 : decode cX9_judges 3 = .ok (.aload_n 0, 1) := by decide +kernel
theorem dX9_judges_4 : decode cX9_judges 4 = .ok (.getfield 86, 3) := by decide +kernel
theorem dX9_judges_7 : decode cX9_judges 7 = .ok (.if_icmp .ge 89, 3) := by decide +kernel
theorem dX9_judges_10 : decode cX9_judges 10 = .ok (.aload_n 0, 1) := by decide +kernel
theorem dX9_judges_11 : decode cX9_judges 11 = .ok (.getfield 22, 3) := by decide +kernel
theorem dX9_judges_14 : decode cX9_judges 14 = .ok (.iload_n 2, 1) := by decide +kernel
theorem dX9_judges_15 : decode cX9_judges 15 = .ok (.iaload, 1) := by decide +kernel
theorem dX9_judges_16 : decode cX9_judges 16 = .ok (.ifCond .eq 74, 3) := by decide +kernel
theorem dX9_judges_19 : decode cX9_judges 19 = .ok (.aload_n 0, 1) := by decide +kernel
theorem dX9_judges_20 : decode cX9_judges 20 = .ok (.getfield 74, 3) := by decide +kernel
theorem dX9_judges_23 : decode cX9_judges 23 = .ok (.iload_n 2, 1) := by decide +kernel
theorem dX9_judges_24 : decode cX9_judges 24 = .ok (.iaload, 1) := by decide +kernel
theorem dX9_judges_25 : decode cX9_judges 25 = .ok (.ifCond .ge 65, 3) := by decide +kernel
theorem dX9_judges_28 : decode cX9_judges 28 = .ok (.aload_n 0, 1) := by decide +kernel
theorem dX9_judges_29 : decode cX9_judges 29 = .ok (.iload_n 2, 1) := by decide +kernel
theorem dX9_judges_30 : decode cX9_judges 30 = .ok (.aload_n 0, 1) := by decide +kernel
theorem dX9_judges_31 : decode cX9_judges 31 = .ok (.getfield 74, 3) := by decide +kernel
theorem dX9_judges_34 : decode cX9_judges 34 = .ok (.iload_n 1, 1) := by decide +kernel
theorem dX9_judges_35 : decode cX9_judges 35 = .ok (.iaload, 1) := by decide +kernel
theorem dX9_judges_36 : decode cX9_judges 36 = .ok (.invokevirtual 193, 3) := by decide +kernel
theorem dX9_judges_39 : decode cX9_judges 39 = .ok (.ifCond .eq 51, 3) := by decide +kernel
theorem dX9_judges_42 : decode cX9_judges 42 = .ok (.aload_n 0, 1) := by decide +kernel
theorem dX9_judges_43 : decode cX9_judges 43 = .ok (.iload_n 2, 1) := by decide +kernel
theorem dX9_judges_44 : decode cX9_judges 44 = .ok (.aload_n 0, 1) := by decide +kernel
theorem dX9_judges_45 : decode cX9_judges 45 = .ok (.getfield 74, 3) := by decide +kernel
theorem dX9_judges_48 : decode cX9_judges 48 = .ok (.iload_n 1, 1) := by decide +kernel
theorem dX9_judges_49 : decode cX9_judges 49 = .ok (.iaload, 1) := by decide +kernel
theorem dX9_judges_50 : decode cX9_judges 50 = .ok (.invokevirtual 136, 3) := by decide +kernel
theorem dX9_judges_53 : decode cX9_judges 53 = .ok (.aload_n 0, 1) := by decide +kernel
theorem dX9_judges_54 : decode cX9_judges 54 = .ok (.iload_n 1, 1) := by decide +kernel
theorem dX9_judges_55 : decode cX9_judges 55 = .ok (.aload_n 0, 1) := by decide +kernel
theorem dX9_judges_56 : decode cX9_judges 56 = .ok (.getfield 74, 3) := by decide +kernel
theorem dX9_judges_59 : decode cX9_judges 59 = .ok (.iload_n 1, 1) := by decide +kernel
theorem dX9_judges_60 : decode cX9_judges 60 = .ok (.iaload, 1) := by decide +kernel
theorem dX9_judges_61 : decode cX9_judges 61 = .ok (.invokevirtual 136, 3) := by decide +kernel
theorem dX9_judges_64 : decode cX9_judges 64 = .ok (.if_icmp .le 6, 3) := by decide +kernel
theorem dX9_judges_67 : decode cX9_judges 67 = .ok (.goto 23, 3) := by decide +kernel
theorem dX9_judges_70 : decode cX9_judges 70 = .ok (.aload_n 0, 1) := by decide +kernel
theorem dX9_judges_71 : decode cX9_judges 71 = .ok (.getfield 74, 3) := by decide +kernel
theorem dX9_judges_74 : decode cX9_judges 74 = .ok (.iload_n 2, 1) := by decide +kernel
theorem dX9_judges_75 : decode cX9_judges 75 = .ok (.aload_n 0, 1) := by decide +kernel
theorem dX9_judges_76 : decode cX9_judges 76 = .ok (.getfield 74, 3) := by decide +kernel
theorem dX9_judges_79 : decode cX9_judges 79 = .ok (.iload_n 1, 1) := by decide +kernel
theorem dX9_judges_80 : decode cX9_judges 80 = .ok (.iaload, 1) := by decide +kernel
theorem dX9_judges_81 : decode cX9_judges 81 = .ok (.iastore, 1) := by decide +kernel
theorem dX9_judges_82 : decode cX9_judges 82 = .ok (.aload_n 0, 1) := by decide +kernel
theorem dX9_judges_83 : decode cX9_judges 83 = .ok (.getfield 74, 3) := by decide +kernel
theorem dX9_judges_86 : decode cX9_judges 86 = .ok (.iload_n 1, 1) := by decide +kernel
theorem dX9_judges_87 : decode cX9_judges 87 = .ok (.iconst (-1), 1) := by decide +kernel
theorem dX9_judges_88 : decode cX9_judges 88 = .ok (.iastore, 1) := by decide +kernel
theorem dX9_judges_89 : decode cX9_judges 89 = .ok (.return_, 1) := by decide +kernel
theorem dX9_judges_90 : decode cX9_judges 90 = .ok (.iinc 2 1, 3) := by decide +kernel
theorem dX9_judges_93 : decode cX9_judges 93 = .ok (.goto (-91), 3) := by decide +kernel
theorem dX9_judges_96 : decode cX9_judges 96 = .ok (.return_, 1) := by decide +kernel
theorem dX9_sit_0 : decode cX9_sit 0 = .ok (.iconst 0, 1) := by decide +kernel
theorem dX9_sit_1 : decode cX9_sit 1 = .ok (.istore_n 1, 1) := by decide +kernel
theorem dX9_sit_2 : decode cX9_sit 2 = .ok (.iload_n 1, 1) := by decide +kernel
theorem dX9_sit_3 : decode cX9_sit 3 = .ok (.bipush 12, 2) := by decide +kernel
theorem dX9_sit_5 : decode cX9_sit 5 = .ok (.if_icmp .ge 16, 3) := by decide +kernel
theorem dX9_sit_8 : decode cX9_sit 8 = .ok (.aload_n 0, 1) := by decide +kernel
theorem dX9_sit_9 : decode cX9_sit 9 = .ok (.getfield 74, 3) := by decide +kernel
theorem dX9_sit_12 : decode cX9_sit 12 = .ok (.iload_n 1, 1) := by decide +kernel
theorem dX9_sit_13 : decode cX9_sit 13 = .ok (.iconst (-1), 1) := by decide +kernel
theorem dX9_sit_14 : decode cX9_sit 14 = .ok (.iastore, 1) := by decide +kernel
theorem dX9_sit_15 : decode cX9_sit 15 = .ok (.iinc 1 1, 3) := by decide +kernel
theorem dX9_sit_18 : decode cX9_sit 18 = .ok (.goto (-16), 3) := by decide +kernel
theorem dX9_sit_21 : decode cX9_sit 21 = .ok (.iconst 1, 1) := by decide +kernel
theorem dX9_sit_22 : decode cX9_sit 22 = .ok (.istore_n 1, 1) := by decide +kernel
theorem dX9_sit_23 : decode cX9_sit 23 = .ok (.iload_n 1, 1) := by decide +kernel
theorem dX9_sit_24 : decode cX9_sit 24 = .ok (.ifCond .eq 11, 3) := by decide +kernel
theorem dX9_sit_27 : decode cX9_sit 27 = .ok (.aload_n 0, 1) := by decide +kernel
theorem dX9_sit_28 : decode cX9_sit 28 = .ok (.invokevirtual 197, 3) := by decide +kernel
theorem dX9_sit_31 : decode cX9_sit 31 = .ok (.istore_n 1, 1) := by decide +kernel
theorem dX9_sit_32 : decode cX9_sit 32 = .ok (.goto (-9), 3) := by decide +kernel
theorem dX9_sit_35 : decode cX9_sit 35 = .ok (.iconst 0, 1) := by decide +kernel
theorem dX9_sit_36 : decode cX9_sit 36 = .ok (.istore_n 2, 1) := by decide +kernel
theorem dX9_sit_37 : decode cX9_sit 37 = .ok (.iload_n 2, 1) := by decide +kernel
theorem dX9_sit_38 : decode cX9_sit 38 = .ok (.aload_n 0, 1) := by decide +kernel
theorem dX9_sit_39 : decode cX9_sit 39 = .ok (.getfield 86, 3) := by decide +kernel
theorem dX9_sit_42 : decode cX9_sit 42 = .ok (.if_icmp .ge 44, 3) := by decide +kernel
theorem dX9_sit_45 : decode cX9_sit 45 = .ok (.aload_n 0, 1) := by decide +kernel
theorem dX9_sit_46 : decode cX9_sit 46 = .ok (.getfield 22, 3) := by decide +kernel
theorem dX9_sit_49 : decode cX9_sit 49 = .ok (.iload_n 2, 1) := by decide +kernel
theorem dX9_sit_50 : decode cX9_sit 50 = .ok (.iaload, 1) := by decide +kernel
theorem dX9_sit_51 : decode cX9_sit 51 = .ok (.iconst 1, 1) := by decide +kernel
theorem dX9_sit_52 : decode cX9_sit 52 = .ok (.if_icmp .ne 28, 3) := by decide +kernel
theorem dX9_sit_55 : decode cX9_sit 55 = .ok (.aload_n 0, 1) := by decide +kernel
theorem dX9_sit_56 : decode cX9_sit 56 = .ok (.getfield 25, 3) := by decide +kernel
theorem dX9_sit_59 : decode cX9_sit 59 = .ok (.iload_n 2, 1) := by decide +kernel
theorem dX9_sit_60 : decode cX9_sit 60 = .ok (.iaload, 1) := by decide +kernel
theorem dX9_sit_61 : decode cX9_sit 61 = .ok (.bipush 6, 2) := by decide +kernel
theorem dX9_sit_63 : decode cX9_sit 63 = .ok (.if_icmp .ne 17, 3) := by decide +kernel
theorem dX9_sit_66 : decode cX9_sit 66 = .ok (.aload_n 0, 1) := by decide +kernel
theorem dX9_sit_67 : decode cX9_sit 67 = .ok (.getfield 74, 3) := by decide +kernel
theorem dX9_sit_70 : decode cX9_sit 70 = .ok (.iload_n 2, 1) := by decide +kernel
theorem dX9_sit_71 : decode cX9_sit 71 = .ok (.iaload, 1) := by decide +kernel
theorem dX9_sit_72 : decode cX9_sit 72 = .ok (.ifCond .lt 8, 3) := by decide +kernel
theorem dX9_sit_75 : decode cX9_sit 75 = .ok (.aload_n 0, 1) := by decide +kernel
theorem dX9_sit_76 : decode cX9_sit 76 = .ok (.iload_n 2, 1) := by decide +kernel
theorem dX9_sit_77 : decode cX9_sit 77 = .ok (.invokevirtual 200, 3) := by decide +kernel
theorem dX9_sit_80 : decode cX9_sit 80 = .ok (.iinc 2 1, 3) := by decide +kernel
theorem dX9_sit_83 : decode cX9_sit 83 = .ok (.goto (-46), 3) := by decide +kernel
theorem dX9_sit_86 : decode cX9_sit 86 = .ok (.return_, 1) := by decide +kernel
theorem dX9_nearest_0 : decode cX9_nearest 0 = .ok (.bipush 60, 2) := by decide +kernel
theorem dX9_nearest_2 : decode cX9_nearest 2 = .ok (.istore_n 2, 1) := by decide +kernel
theorem dX9_nearest_3 : decode cX9_nearest 3 = .ok (.iconst 0, 1) := by decide +kernel
theorem dX9_nearest_4 : decode cX9_nearest 4 = .ok (.istore_n 3, 1) := by decide +kernel
theorem dX9_nearest_5 : decode cX9_nearest 5 = .ok (.iload_n 3, 1) := by decide +kernel
theorem dX9_nearest_6 : decode cX9_nearest 6 = .ok (.aload_n 0, 1) := by decide +kernel
theorem dX9_nearest_7 : decode cX9_nearest 7 = .ok (.getfield 43, 3) := by decide +kernel
theorem dX9_nearest_10 : decode cX9_nearest 10 = .ok (.if_icmp .ge 50, 3) := by decide +kernel
theorem dX9_nearest_13 : decode cX9_nearest 13 = .ok (.aload_n 0, 1) := by decide +kernel
theorem dX9_nearest_14 : decode cX9_nearest 14 = .ok (.getfield 13, 3) := by decide +kernel
theorem dX9_nearest_17 : decode cX9_nearest 17 = .ok (.iload_n 3, 1) := by decide +kernel
theorem dX9_nearest_18 : decode cX9_nearest 18 = .ok (.iaload, 1) := by decide +kernel
theorem dX9_nearest_19 : decode cX9_nearest 19 = .ok (.iconst 1, 1) := by decide +kernel
theorem dX9_nearest_20 : decode cX9_nearest 20 = .ok (.if_icmp .ne 32, 3) := by decide +kernel
theorem dX9_nearest_23 : decode cX9_nearest 23 = .ok (.aload_n 0, 1) := by decide +kernel
theorem dX9_nearest_24 : decode cX9_nearest 24 = .ok (.aload_n 0, 1) := by decide +kernel
theorem dX9_nearest_25 : decode cX9_nearest 25 = .ok (.getfield 16, 3) := by decide +kernel
theorem dX9_nearest_28 : decode cX9_nearest 28 = .ok (.iload_n 1, 1) := by decide +kernel
theorem dX9_nearest_29 : decode cX9_nearest 29 = .ok (.iaload, 1) := by decide +kernel
theorem dX9_nearest_30 : decode cX9_nearest 30 = .ok (.iload_n 3, 1) := by decide +kernel
theorem dX9_nearest_31 : decode cX9_nearest 31 = .ok (.invokevirtual 132, 3) := by decide +kernel
theorem dX9_nearest_34 : decode cX9_nearest 34 = .ok (.iload_n 2, 1) := by decide +kernel
theorem dX9_nearest_35 : decode cX9_nearest 35 = .ok (.if_icmp .ge 17, 3) := by decide +kernel
theorem dX9_nearest_38 : decode cX9_nearest 38 = .ok (.aload_n 0, 1) := by decide +kernel
theorem dX9_nearest_39 : decode cX9_nearest 39 = .ok (.aload_n 0, 1) := by decide +kernel
theorem dX9_nearest_40 : decode cX9_nearest 40 = .ok (.getfield 16, 3) := by decide +kernel
theorem dX9_nearest_43 : decode cX9_nearest 43 = .ok (.iload_n 1, 1) := by decide +kernel
theorem dX9_nearest_44 : decode cX9_nearest 44 = .ok (.iaload, 1) := by decide +kernel
theorem dX9_nearest_45 : decode cX9_nearest 45 = .ok (.iload_n 3, 1) := by decide +kernel
theorem dX9_nearest_46 : decode cX9_nearest 46 = .ok (.invokevirtual 132, 3) := by decide +kernel
theorem dX9_nearest_49 : decode cX9_nearest 49 = .ok (.goto 4, 3) := by decide +kernel
theorem dX9_nearest_52 : decode cX9_nearest 52 = .ok (.iload_n 2, 1) := by decide +kernel
theorem dX9_nearest_53 : decode cX9_nearest 53 = .ok (.istore_n 2, 1) := by decide +kernel
theorem dX9_nearest_54 : decode cX9_nearest 54 = .ok (.iinc 3 1, 3) := by decide +kernel
theorem dX9_nearest_57 : decode cX9_nearest 57 = .ok (.goto (-52), 3) := by decide +kernel
theorem dX9_nearest_60 : decode cX9_nearest 60 = .ok (.iload_n 2, 1) := by decide +kernel
theorem dX9_nearest_61 : decode cX9_nearest 61 = .ok (.ireturn, 1) := by decide +kernel
theorem dX9_goer_0 : decode cX9_goer 0 = .ok (.bipush (-9), 2) := by decide +kernel
theorem dX9_goer_2 : decode cX9_goer 2 = .ok (.istore_n 1, 1) := by decide +kernel
theorem dX9_goer_3 : decode cX9_goer 3 = .ok (.iconst 0, 1) := by decide +kernel
theorem dX9_goer_4 : decode cX9_goer 4 = .ok (.istore_n 2, 1) := by decide +kernel
theorem dX9_goer_5 : decode cX9_goer 5 = .ok (.iload_n 2, 1) := by decide +kernel
theorem dX9_goer_6 : decode cX9_goer 6 = .ok (.aload_n 0, 1) := by decide +kernel
theorem dX9_goer_7 : decode cX9_goer 7 = .ok (.getfield 86, 3) := by decide +kernel
theorem dX9_goer_10 : decode cX9_goer 10 = .ok (.if_icmp .ge 47, 3) := by decide +kernel
theorem dX9_goer_13 : decode cX9_goer 13 = .ok (.aload_n 0, 1) := by decide +kernel
theorem dX9_goer_14 : decode cX9_goer 14 = .ok (.getfield 22, 3) := by decide +kernel
theorem dX9_goer_17 : decode cX9_goer 17 = .ok (.iload_n 2, 1) := by decide +kernel
theorem dX9_goer_18 : decode cX9_goer 18 = .ok (.iaload, 1) := by decide +kernel
theorem dX9_goer_19 : decode cX9_goer 19 = .ok (.iconst 1, 1) := by decide +kernel
theorem dX9_goer_20 : decode cX9_goer 20 = .ok (.if_icmp .ne 31, 3) := by decide +kernel
theorem dX9_goer_23 : decode cX9_goer 23 = .ok (.aload_n 0, 1) := by decide +kernel
theorem dX9_goer_24 : decode cX9_goer 24 = .ok (.getfield 74, 3) := by decide +kernel
theorem dX9_goer_27 : decode cX9_goer 27 = .ok (.iload_n 2, 1) := by decide +kernel
theorem dX9_goer_28 : decode cX9_goer 28 = .ok (.iaload, 1) := by decide +kernel
theorem dX9_goer_29 : decode cX9_goer 29 = .ok (.ifCond .ge 22, 3) := by decide +kernel
theorem dX9_goer_32 : decode cX9_goer 32 = .ok (.iload_n 1, 1) := by decide +kernel
theorem dX9_goer_33 : decode cX9_goer 33 = .ok (.ifCond .lt 16, 3) := by decide +kernel
theorem dX9_goer_36 : decode cX9_goer 36 = .ok (.aload_n 0, 1) := by decide +kernel
theorem dX9_goer_37 : decode cX9_goer 37 = .ok (.iload_n 2, 1) := by decide +kernel
theorem dX9_goer_38 : decode cX9_goer 38 = .ok (.invokevirtual 203, 3) := by decide +kernel
theorem dX9_goer_41 : decode cX9_goer 41 = .ok (.aload_n 0, 1) := by decide +kernel
theorem dX9_goer_42 : decode cX9_goer 42 = .ok (.iload_n 1, 1) := by decide +kernel
theorem dX9_goer_43 : decode cX9_goer 43 = .ok (.invokevirtual 203, 3) := by decide +kernel
theorem dX9_goer_46 : decode cX9_goer 46 = .ok (.if_icmp .lt 5, 3) := by decide +kernel
theorem dX9_goer_49 : decode cX9_goer 49 = .ok (.iload_n 2, 1) := by decide +kernel
theorem dX9_goer_50 : decode cX9_goer 50 = .ok (.istore_n 1, 1) := by decide +kernel
theorem dX9_goer_51 : decode cX9_goer 51 = .ok (.iinc 2 1, 3) := by decide +kernel
theorem dX9_goer_54 : decode cX9_goer 54 = .ok (.goto (-49), 3) := by decide +kernel
theorem dX9_goer_57 : decode cX9_goer 57 = .ok (.iload_n 1, 1) := by decide +kernel
theorem dX9_goer_58 : decode cX9_goer 58 = .ok (.ireturn, 1) := by decide +kernel
theorem dX9_ways_0 : decode cX9_ways 0 = .ok (.iconst 1, 1) := by decide +kernel
theorem dX9_ways_1 : decode cX9_ways 1 = .ok (.istore_n 2, 1) := by decide +kernel
theorem dX9_ways_2 : decode cX9_ways 2 = .ok (.aload_n 0, 1) := by decide +kernel
theorem dX9_ways_3 : decode cX9_ways 3 = .ok (.getfield 13, 3) := by decide +kernel
theorem dX9_ways_6 : decode cX9_ways 6 = .ok (.iload_n 1, 1) := by decide +kernel
theorem dX9_ways_7 : decode cX9_ways 7 = .ok (.iload_n 2, 1) := by decide +kernel
theorem dX9_ways_8 : decode cX9_ways 8 = .ok (.iadd, 1) := by decide +kernel
theorem dX9_ways_9 : decode cX9_ways 9 = .ok (.aload_n 0, 1) := by decide +kernel
theorem dX9_ways_10 : decode cX9_ways 10 = .ok (.getfield 43, 3) := by decide +kernel
theorem dX9_ways_13 : decode cX9_ways 13 = .ok (.irem, 1) := by decide +kernel
theorem dX9_ways_14 : decode cX9_ways 14 = .ok (.iaload, 1) := by decide +kernel
theorem dX9_ways_15 : decode cX9_ways 15 = .ok (.ifCond .ne 9, 3) := by decide +kernel
theorem dX9_ways_18 : decode cX9_ways 18 = .ok (.iinc 2 1, 3) := by decide +kernel
theorem dX9_ways_21 : decode cX9_ways 21 = .ok (.goto (-19), 3) := by decide +kernel
theorem dX9_ways_24 : decode cX9_ways 24 = .ok (.iconst 1, 1) := by decide +kernel
theorem dX9_ways_25 : decode cX9_ways 25 = .ok (.istore_n 3, 1) := by decide +kernel
theorem dX9_ways_26 : decode cX9_ways 26 = .ok (.aload_n 0, 1) := by decide +kernel
theorem dX9_ways_27 : decode cX9_ways 27 = .ok (.getfield 13, 3) := by decide +kernel
theorem dX9_ways_30 : decode cX9_ways 30 = .ok (.iload_n 1, 1) := by decide +kernel
theorem dX9_ways_31 : decode cX9_ways 31 = .ok (.iload_n 3, 1) := by decide +kernel
theorem dX9_ways_32 : decode cX9_ways 32 = .ok (.isub, 1) := by decide +kernel
theorem dX9_ways_33 : decode cX9_ways 33 = .ok (.aload_n 0, 1) := by decide +kernel
theorem dX9_ways_34 : decode cX9_ways 34 = .ok (.getfield 43, 3) := by decide +kernel
theorem dX9_ways_37 : decode cX9_ways 37 = .ok (.iadd, 1) := by decide +kernel
theorem dX9_ways_38 : decode cX9_ways 38 = .ok (.aload_n 0, 1) := by decide +kernel
theorem dX9_ways_39 : decode cX9_ways 39 = .ok (.getfield 43, 3) := by decide +kernel
theorem dX9_ways_42 : decode cX9_ways 42 = .ok (.irem, 1) := by decide +kernel
theorem dX9_ways_43 : decode cX9_ways 43 = .ok (.iaload, 1) := by decide +kernel
theorem dX9_ways_44 : decode cX9_ways 44 = .ok (.ifCond .ne 9, 3) := by decide +kernel
theorem dX9_ways_47 : decode cX9_ways 47 = .ok (.iinc 3 1, 3) := by decide +kernel
theorem dX9_ways_50 : decode cX9_ways 50 = .ok (.goto (-24), 3) := by decide +kernel
theorem dX9_ways_53 : decode cX9_ways 53 = .ok (.iload_n 2, 1) := by decide +kernel
theorem dX9_ways_54 : decode cX9_ways 54 = .ok (.iload_n 3, 1) := by decide +kernel
theorem dX9_ways_55 : decode cX9_ways 55 = .ok (.iadd, 1) := by decide +kernel
theorem dX9_ways_56 : decode cX9_ways 56 = .ok (.ireturn, 1) := by decide +kernel
theorem dX9_leaver_0 : decode cX9_leaver 0 = .ok (.bipush (-9), 2) := by decide +kernel
theorem dX9_leaver_2 : decode cX9_leaver 2 = .ok (.istore_n 1, 1) := by decide +kernel
theorem dX9_leaver_3 : decode cX9_leaver 3 = .ok (.iconst 0, 1) := by decide +kernel
theorem dX9_leaver_4 : decode cX9_leaver 4 = .ok (.istore_n 2, 1) := by decide +kernel
theorem dX9_leaver_5 : decode cX9_leaver 5 = .ok (.iload_n 2, 1) := by decide +kernel
theorem dX9_leaver_6 : decode cX9_leaver 6 = .ok (.aload_n 0, 1) := by decide +kernel
theorem dX9_leaver_7 : decode cX9_leaver 7 = .ok (.getfield 43, 3) := by decide +kernel
theorem dX9_leaver_10 : decode cX9_leaver 10 = .ok (.if_icmp .ge 56, 3) := by decide +kernel
theorem dX9_leaver_13 : decode cX9_leaver 13 = .ok (.aload_n 0, 1) := by decide +kernel
theorem dX9_leaver_14 : decode cX9_leaver 14 = .ok (.getfield 13, 3) := by decide +kernel
theorem dX9_leaver_17 : decode cX9_leaver 17 = .ok (.iload_n 2, 1) := by decide +kernel
theorem dX9_leaver_18 : decode cX9_leaver 18 = .ok (.iaload, 1) := by decide +kernel
theorem dX9_leaver_19 : decode cX9_leaver 19 = .ok (.ifCond .ne 6, 3) := by decide +kernel
theorem dX9_leaver_22 : decode cX9_leaver 22 = .ok (.goto 38, 3) := by decide +kernel
theorem dX9_leaver_25 : decode cX9_leaver 25 = .ok (.iload_n 1, 1) := by decide +kernel
theorem dX9_leaver_26 : decode cX9_leaver 26 = .ok (.ifCond .lt 32, 3) := by decide +kernel
theorem dX9_leaver_29 : decode cX9_leaver 29 = .ok (.aload_n 0, 1) := by decide +kernel
theorem dX9_leaver_30 : decode cX9_leaver 30 = .ok (.getfield 129, 3) := by decide +kernel
theorem dX9_leaver_33 : decode cX9_leaver 33 = .ok (.iconst 1, 1) := by decide +kernel
theorem dX9_leaver_34 : decode cX9_leaver 34 = .ok (.if_icmp .eq 24, 3) := by decide +kernel
theorem dX9_leaver_37 : decode cX9_leaver 37 = .ok (.aload_n 0, 1) := by decide +kernel
theorem dX9_leaver_38 : decode cX9_leaver 38 = .ok (.getfield 129, 3) := by decide +kernel
theorem dX9_leaver_41 : decode cX9_leaver 41 = .ok (.iconst 2, 1) := by decide +kernel
theorem dX9_leaver_42 : decode cX9_leaver 42 = .ok (.if_icmp .ne 18, 3) := by decide +kernel
theorem dX9_leaver_45 : decode cX9_leaver 45 = .ok (.aload_n 0, 1) := by decide +kernel
theorem dX9_leaver_46 : decode cX9_leaver 46 = .ok (.iload_n 2, 1) := by decide +kernel
theorem dX9_leaver_47 : decode cX9_leaver 47 = .ok (.invokevirtual 206, 3) := by decide +kernel
theorem dX9_leaver_50 : decode cX9_leaver 50 = .ok (.aload_n 0, 1) := by decide +kernel
theorem dX9_leaver_51 : decode cX9_leaver 51 = .ok (.iload_n 1, 1) := by decide +kernel
theorem dX9_leaver_52 : decode cX9_leaver 52 = .ok (.invokevirtual 206, 3) := by decide +kernel
theorem dX9_leaver_55 : decode cX9_leaver 55 = .ok (.if_icmp .ge 5, 3) := by decide +kernel
theorem dX9_leaver_58 : decode cX9_leaver 58 = .ok (.iload_n 2, 1) := by decide +kernel
theorem dX9_leaver_59 : decode cX9_leaver 59 = .ok (.istore_n 1, 1) := by decide +kernel
theorem dX9_leaver_60 : decode cX9_leaver 60 = .ok (.iinc 2 1, 3) := by decide +kernel
theorem dX9_leaver_63 : decode cX9_leaver 63 = .ok (.goto (-58), 3) := by decide +kernel
theorem dX9_leaver_66 : decode cX9_leaver 66 = .ok (.iload_n 1, 1) := by decide +kernel
theorem dX9_leaver_67 : decode cX9_leaver 67 = .ok (.ireturn, 1) := by decide +kernel
theorem dX9_stops_0 : decode cX9_stops 0 = .ok (.aload_n 0, 1) := by decide +kernel
theorem dX9_stops_1 : decode cX9_stops 1 = .ok (.invokevirtual 209, 3) := by decide +kernel
theorem dX9_stops_4 : decode cX9_stops 4 = .ok (.aload_n 0, 1) := by decide +kernel
theorem dX9_stops_5 : decode cX9_stops 5 = .ok (.invokevirtual 212, 3) := by decide +kernel
theorem dX9_stops_8 : decode cX9_stops 8 = .ok (.istore_n 1, 1) := by decide +kernel
theorem dX9_stops_9 : decode cX9_stops 9 = .ok (.iload_n 1, 1) := by decide +kernel
theorem dX9_stops_10 : decode cX9_stops 10 = .ok (.ifCond .lt 28, 3) := by decide +kernel
theorem dX9_stops_13 : decode cX9_stops 13 = .ok (.aload_n 0, 1) := by decide +kernel
theorem dX9_stops_14 : decode cX9_stops 14 = .ok (.getfield 22, 3) := by decide +kernel
theorem dX9_stops_17 : decode cX9_stops 17 = .ok (.iload_n 1, 1) := by decide +kernel
theorem dX9_stops_18 : decode cX9_stops 18 = .ok (.iconst 0, 1) := by decide +kernel
theorem dX9_stops_19 : decode cX9_stops 19 = .ok (.iastore, 1) := by decide +kernel
theorem dX9_stops_20 : decode cX9_stops 20 = .ok (.aload_n 0, 1) := by decide +kernel
theorem dX9_stops_21 : decode cX9_stops 21 = .ok (.invokevirtual 100, 3) := by decide +kernel
theorem dX9_stops_24 : decode cX9_stops 24 = .ok (.iconst 1, 1) := by decide +kernel
theorem dX9_stops_25 : decode cX9_stops 25 = .ok (.if_icmp .le 13, 3) := by decide +kernel
theorem dX9_stops_28 : decode cX9_stops 28 = .ok (.aload_n 0, 1) := by decide +kernel
theorem dX9_stops_29 : decode cX9_stops 29 = .ok (.getfield 13, 3) := by decide +kernel
theorem dX9_stops_32 : decode cX9_stops 32 = .ok (.aload_n 0, 1) := by decide +kernel
theorem dX9_stops_33 : decode cX9_stops 33 = .ok (.invokevirtual 215, 3) := by decide +kernel
theorem dX9_stops_36 : decode cX9_stops 36 = .ok (.iconst 0, 1) := by decide +kernel
theorem dX9_stops_37 : decode cX9_stops 37 = .ok (.iastore, 1) := by decide +kernel
theorem dX9_stops_38 : decode cX9_stops 38 = .ok (.aload_n 0, 1) := by decide +kernel
theorem dX9_stops_39 : decode cX9_stops 39 = .ok (.dup, 1) := by decide +kernel
theorem dX9_stops_40 : decode cX9_stops 40 = .ok (.getfield 187, 3) := by decide +kernel
theorem dX9_stops_43 : decode cX9_stops 43 = .ok (.iconst 1, 1) := by decide +kernel
theorem dX9_stops_44 : decode cX9_stops 44 = .ok (.iadd, 1) := by decide +kernel
theorem dX9_stops_45 : decode cX9_stops 45 = .ok (.putfield 187, 3) := by decide +kernel
theorem dX9_stops_48 : decode cX9_stops 48 = .ok (.aload_n 0, 1) := by decide +kernel
theorem dX9_stops_49 : decode cX9_stops 49 = .ok (.iconst 0, 1) := by decide +kernel
theorem dX9_stops_50 : decode cX9_stops 50 = .ok (.putfield 184, 3) := by decide +kernel
theorem dX9_stops_53 : decode cX9_stops 53 = .ok (.iload_n 1, 1) := by decide +kernel
theorem dX9_stops_54 : decode cX9_stops 54 = .ok (.ifCond .lt 11, 3) := by decide +kernel
theorem dX9_stops_57 : decode cX9_stops 57 = .ok (.aload_n 0, 1) := by decide +kernel
theorem dX9_stops_58 : decode cX9_stops 58 = .ok (.invokevirtual 218, 3) := by decide +kernel
theorem dX9_stops_61 : decode cX9_stops 61 = .ok (.iconst 1, 1) := by decide +kernel
theorem dX9_stops_62 : decode cX9_stops 62 = .ok (.if_icmp .ne 8, 3) := by decide +kernel
theorem dX9_stops_65 : decode cX9_stops 65 = .ok (.aload_n 0, 1) := by decide +kernel
theorem dX9_stops_66 : decode cX9_stops 66 = .ok (.iconst 1, 1) := by decide +kernel
theorem dX9_stops_67 : decode cX9_stops 67 = .ok (.putfield 89, 3) := by decide +kernel
theorem dX9_stops_70 : decode cX9_stops 70 = .ok (.iload_n 1, 1) := by decide +kernel
theorem dX9_stops_71 : decode cX9_stops 71 = .ok (.ireturn, 1) := by decide +kernel
theorem dX9_doesStop_0 : decode cX9_doesStop 0 = .ok (.aload_n 0, 1) := by decide +kernel
theorem dX9_doesStop_1 : decode cX9_doesStop 1 = .ok (.aload_n 0, 1) := by decide +kernel
theorem dX9_doesStop_2 : decode cX9_doesStop 2 = .ok (.getfield 50, 3) := by decide +kernel
theorem dX9_doesStop_5 : decode cX9_doesStop 5 = .ok (.ldc 221, 2) := by decide +kernel
theorem dX9_doesStop_7 : decode cX9_doesStop 7 = .ok (.imul, 1) := by decide +kernel
theorem dX9_doesStop_8 : decode cX9_doesStop 8 = .ok (.sipush 12345, 3) := by decide +kernel
theorem dX9_doesStop_11 : decode cX9_doesStop 11 = .ok (.iadd, 1) := by decide +kernel
theorem dX9_doesStop_12 : decode cX9_doesStop 12 = .ok (.putfield 50, 3) := by decide +kernel
theorem dX9_doesStop_15 : decode cX9_doesStop 15 = .ok (.aload_n 0, 1) := by decide +kernel
theorem dX9_doesStop_16 : decode cX9_doesStop 16 = .ok (.getfield 50, 3) := by decide +kernel
theorem dX9_doesStop_19 : decode cX9_doesStop 19 = .ok (.ldc 222, 2) := by decide +kernel
theorem dX9_doesStop_21 : decode cX9_doesStop 21 = .ok (.iand, 1) := by decide +kernel
theorem dX9_doesStop_22 : decode cX9_doesStop 22 = .ok (.ldc 223, 2) := by decide +kernel
theorem dX9_doesStop_24 : decode cX9_doesStop 24 = .ok (.idiv, 1) := by decide +kernel
theorem dX9_doesStop_25 : decode cX9_doesStop 25 = .ok (.bipush 100, 2) := by decide +kernel
theorem dX9_doesStop_27 : decode cX9_doesStop 27 = .ok (.irem, 1) := by decide +kernel
theorem dX9_doesStop_28 : decode cX9_doesStop 28 = .ok (.istore_n 1, 1) := by decide +kernel
theorem dX9_doesStop_29 : decode cX9_doesStop 29 = .ok (.aload_n 0, 1) := by decide +kernel
theorem dX9_doesStop_30 : decode cX9_doesStop 30 = .ok (.getfield 184, 3) := by decide +kernel
theorem dX9_doesStop_33 : decode cX9_doesStop 33 = .ok (.sipush 300, 3) := by decide +kernel
theorem dX9_doesStop_36 : decode cX9_doesStop 36 = .ok (.if_icmp .lt 5, 3) := by decide +kernel
theorem dX9_doesStop_39 : decode cX9_doesStop 39 = .ok (.iconst 1, 1) := by decide +kernel
theorem dX9_doesStop_40 : decode cX9_doesStop 40 = .ok (.ireturn, 1) := by decide +kernel
theorem dX9_doesStop_41 : decode cX9_doesStop 41 = .ok (.aload_n 0, 1) := by decide +kernel
theorem dX9_doesStop_42 : decode cX9_doesStop 42 = .ok (.getfield 126, 3) := by decide +kernel
theorem dX9_doesStop_45 : decode cX9_doesStop 45 = .ok (.tableswitch 138 1 4 #[31, 55, 80, 121], 31) := by decide +kernel
theorem dX9_doesStop_76 : decode cX9_doesStop 76 = .ok (.iload_n 1, 1) := by decide +kernel
theorem dX9_doesStop_77 : decode cX9_doesStop 77 = .ok (.aload_n 0, 1) := by decide +kernel
theorem dX9_doesStop_78 : decode cX9_doesStop 78 = .ok (.getfield 47, 3) := by decide +kernel
theorem dX9_doesStop_81 : decode cX9_doesStop 81 = .ok (.if_icmp .ge 17, 3) := by decide +kernel
theorem dX9_doesStop_84 : decode cX9_doesStop 84 = .ok (.aload_n 0, 1) := by decide +kernel
theorem dX9_doesStop_85 : decode cX9_doesStop 85 = .ok (.getfield 184, 3) := by decide +kernel
theorem dX9_doesStop_88 : decode cX9_doesStop 88 = .ok (.bipush 8, 2) := by decide +kernel
theorem dX9_doesStop_90 : decode cX9_doesStop 90 = .ok (.irem, 1) := by decide +kernel
theorem dX9_doesStop_91 : decode cX9_doesStop 91 = .ok (.ifCond .ne 7, 3) := by decide +kernel
theorem dX9_doesStop_94 : decode cX9_doesStop 94 = .ok (.iconst 1, 1) := by decide +kernel
theorem dX9_doesStop_95 : decode cX9_doesStop 95 = .ok (.goto 4, 3) := by decide +kernel
theorem dX9_doesStop_98 : decode cX9_doesStop 98 = .ok (.iconst 0, 1) := by decide +kernel
theorem dX9_doesStop_99 : decode cX9_doesStop 99 = .ok (.ireturn, 1) := by decide +kernel
theorem dX9_doesStop_100 : decode cX9_doesStop 100 = .ok (.iload_n 1, 1) := by decide +kernel
theorem dX9_doesStop_101 : decode cX9_doesStop 101 = .ok (.aload_n 0, 1) := by decide +kernel
theorem dX9_doesStop_102 : decode cX9_doesStop 102 = .ok (.getfield 47, 3) := by decide +kernel
theorem dX9_doesStop_105 : decode cX9_doesStop 105 = .ok (.if_icmp .ge 18, 3) := by decide +kernel
theorem dX9_doesStop_108 : decode cX9_doesStop 108 = .ok (.aload_n 0, 1) := by decide +kernel
theorem dX9_doesStop_109 : decode cX9_doesStop 109 = .ok (.getfield 184, 3) := by decide +kernel
theorem dX9_doesStop_112 : decode cX9_doesStop 112 = .ok (.aload_n 0, 1) := by decide +kernel
theorem dX9_doesStop_113 : decode cX9_doesStop 113 = .ok (.getfield 47, 3) := by decide +kernel
theorem dX9_doesStop_116 : decode cX9_doesStop 116 = .ok (.if_icmp .lt 7, 3) := by decide +kernel
theorem dX9_doesStop_119 : decode cX9_doesStop 119 = .ok (.iconst 1, 1) := by decide +kernel
theorem dX9_doesStop_120 : decode cX9_doesStop 120 = .ok (.goto 4, 3) := by decide +kernel
theorem dX9_doesStop_123 : decode cX9_doesStop 123 = .ok (.iconst 0, 1) := by decide +kernel
theorem dX9_doesStop_124 : decode cX9_doesStop 124 = .ok (.ireturn, 1) := by decide +kernel
theorem dX9_doesStop_125 : decode cX9_doesStop 125 = .ok (.aload_n 0, 1) := by decide +kernel
theorem dX9_doesStop_126 : decode cX9_doesStop 126 = .ok (.getfield 47, 3) := by decide +kernel
theorem dX9_doesStop_129 : decode cX9_doesStop 129 = .ok (.aload_n 0, 1) := by decide +kernel
theorem dX9_doesStop_130 : decode cX9_doesStop 130 = .ok (.getfield 86, 3) := by decide +kernel
theorem dX9_doesStop_133 : decode cX9_doesStop 133 = .ok (.irem, 1) := by decide +kernel
theorem dX9_doesStop_134 : decode cX9_doesStop 134 = .ok (.istore_n 2, 1) := by decide +kernel
theorem dX9_doesStop_135 : decode cX9_doesStop 135 = .ok (.aload_n 0, 1) := by decide +kernel
theorem dX9_doesStop_136 : decode cX9_doesStop 136 = .ok (.getfield 22, 3) := by decide +kernel
theorem dX9_doesStop_139 : decode cX9_doesStop 139 = .ok (.iload_n 2, 1) := by decide +kernel
theorem dX9_doesStop_140 : decode cX9_doesStop 140 = .ok (.iaload, 1) := by decide +kernel
theorem dX9_doesStop_141 : decode cX9_doesStop 141 = .ok (.iconst 1, 1) := by decide +kernel
theorem dX9_doesStop_142 : decode cX9_doesStop 142 = .ok (.if_icmp .ne 22, 3) := by decide +kernel
theorem dX9_doesStop_145 : decode cX9_doesStop 145 = .ok (.aload_n 0, 1) := by decide +kernel
theorem dX9_doesStop_146 : decode cX9_doesStop 146 = .ok (.getfield 13, 3) := by decide +kernel
theorem dX9_doesStop_149 : decode cX9_doesStop 149 = .ok (.aload_n 0, 1) := by decide +kernel
theorem dX9_doesStop_150 : decode cX9_doesStop 150 = .ok (.getfield 16, 3) := by decide +kernel
theorem dX9_doesStop_153 : decode cX9_doesStop 153 = .ok (.iload_n 2, 1) := by decide +kernel
theorem dX9_doesStop_154 : decode cX9_doesStop 154 = .ok (.iaload, 1) := by decide +kernel
theorem dX9_doesStop_155 : decode cX9_doesStop 155 = .ok (.iaload, 1) := by decide +kernel
theorem dX9_doesStop_156 : decode cX9_doesStop 156 = .ok (.iconst 1, 1) := by decide +kernel
theorem dX9_doesStop_157 : decode cX9_doesStop 157 = .ok (.if_icmp .ne 7, 3) := by decide +kernel
theorem dX9_doesStop_160 : decode cX9_doesStop 160 = .ok (.iconst 1, 1) := by decide +kernel
theorem dX9_doesStop_161 : decode cX9_doesStop 161 = .ok (.goto 4, 3) := by decide +kernel
theorem dX9_doesStop_164 : decode cX9_doesStop 164 = .ok (.iconst 0, 1) := by decide +kernel
theorem dX9_doesStop_165 : decode cX9_doesStop 165 = .ok (.ireturn, 1) := by decide +kernel
theorem dX9_doesStop_166 : decode cX9_doesStop 166 = .ok (.aload_n 0, 1) := by decide +kernel
theorem dX9_doesStop_167 : decode cX9_doesStop 167 = .ok (.getfield 184, 3) := by decide +kernel
theorem dX9_doesStop_170 : decode cX9_doesStop 170 = .ok (.aload_n 0, 1) := by decide +kernel
theorem dX9_doesStop_171 : decode cX9_doesStop 171 = .ok (.getfield 47, 3) := by decide +kernel
theorem dX9_doesStop_174 : decode cX9_doesStop 174 = .ok (.if_icmp .ne 7, 3) := by decide +kernel
theorem dX9_doesStop_177 : decode cX9_doesStop 177 = .ok (.iconst 1, 1) := by decide +kernel
theorem dX9_doesStop_178 : decode cX9_doesStop 178 = .ok (.goto 4, 3) := by decide +kernel
theorem dX9_doesStop_181 : decode cX9_doesStop 181 = .ok (.iconst 0, 1) := by decide +kernel
theorem dX9_doesStop_182 : decode cX9_doesStop 182 = .ok (.ireturn, 1) := by decide +kernel
theorem dX9_doesStop_183 : decode cX9_doesStop 183 = .ok (.iload_n 1, 1) := by decide +kernel
theorem dX9_doesStop_184 : decode cX9_doesStop 184 = .ok (.aload_n 0, 1) := by decide +kernel
theorem dX9_doesStop_185 : decode cX9_doesStop 185 = .ok (.getfield 47, 3) := by decide +kernel
theorem dX9_doesStop_188 : decode cX9_doesStop 188 = .ok (.if_icmp .ge 7, 3) := by decide +kernel
theorem dX9_doesStop_191 : decode cX9_doesStop 191 = .ok (.iconst 1, 1) := by decide +kernel
theorem dX9_doesStop_192 : decode cX9_doesStop 192 = .ok (.goto 4, 3) := by decide +kernel
theorem dX9_doesStop_195 : decode cX9_doesStop 195 = .ok (.iconst 0, 1) := by decide +kernel
theorem dX9_doesStop_196 : decode cX9_doesStop 196 = .ok (.ireturn, 1) := by decide +kernel
theorem dX9_goesOn_0 : decode cX9_goesOn 0 = .ok (.aload_n 0, 1) := by decide +kernel
theorem dX9_goesOn_1 : decode cX9_goesOn 1 = .ok (.invokevirtual 224, 3) := by decide +kernel
theorem dX9_goesOn_4 : decode cX9_goesOn 4 = .ok (.aload_n 0, 1) := by decide +kernel
theorem dX9_goesOn_5 : decode cX9_goesOn 5 = .ok (.dup, 1) := by decide +kernel
theorem dX9_goesOn_6 : decode cX9_goesOn 6 = .ok (.getfield 184, 3) := by decide +kernel
theorem dX9_goesOn_9 : decode cX9_goesOn 9 = .ok (.iconst 1, 1) := by decide +kernel
theorem dX9_goesOn_10 : decode cX9_goesOn 10 = .ok (.iadd, 1) := by decide +kernel
theorem dX9_goesOn_11 : decode cX9_goesOn 11 = .ok (.putfield 184, 3) := by decide +kernel
theorem dX9_goesOn_14 : decode cX9_goesOn 14 = .ok (.aload_n 0, 1) := by decide +kernel
theorem dX9_goesOn_15 : decode cX9_goesOn 15 = .ok (.invokevirtual 227, 3) := by decide +kernel
theorem dX9_goesOn_18 : decode cX9_goesOn 18 = .ok (.ifCond .ne 5, 3) := by decide +kernel
theorem dX9_goesOn_21 : decode cX9_goesOn 21 = .ok (.iconst 0, 1) := by decide +kernel
theorem dX9_goesOn_22 : decode cX9_goesOn 22 = .ok (.ireturn, 1) := by decide +kernel
theorem dX9_goesOn_23 : decode cX9_goesOn 23 = .ok (.aload_n 0, 1) := by decide +kernel
theorem dX9_goesOn_24 : decode cX9_goesOn 24 = .ok (.invokevirtual 230, 3) := by decide +kernel
theorem dX9_goesOn_27 : decode cX9_goesOn 27 = .ok (.pop, 1) := by decide +kernel
theorem dX9_goesOn_28 : decode cX9_goesOn 28 = .ok (.iconst 1, 1) := by decide +kernel
theorem dX9_goesOn_29 : decode cX9_goesOn 29 = .ok (.ireturn, 1) := by decide +kernel
theorem dX9_isOver_0 : decode cX9_isOver 0 = .ok (.aload_n 0, 1) := by decide +kernel
theorem dX9_isOver_1 : decode cX9_isOver 1 = .ok (.getfield 89, 3) := by decide +kernel
theorem dX9_isOver_4 : decode cX9_isOver 4 = .ok (.iconst 1, 1) := by decide +kernel
theorem dX9_isOver_5 : decode cX9_isOver 5 = .ok (.if_icmp .eq 18, 3) := by decide +kernel
theorem dX9_isOver_8 : decode cX9_isOver 8 = .ok (.aload_n 0, 1) := by decide +kernel
theorem dX9_isOver_9 : decode cX9_isOver 9 = .ok (.invokevirtual 218, 3) := by decide +kernel
theorem dX9_isOver_12 : decode cX9_isOver 12 = .ok (.iconst 2, 1) := by decide +kernel
theorem dX9_isOver_13 : decode cX9_isOver 13 = .ok (.if_icmp .lt 10, 3) := by decide +kernel
theorem dX9_isOver_16 : decode cX9_isOver 16 = .ok (.aload_n 0, 1) := by decide +kernel
theorem dX9_isOver_17 : decode cX9_isOver 17 = .ok (.invokevirtual 100, 3) := by decide +kernel
theorem dX9_isOver_20 : decode cX9_isOver 20 = .ok (.ifCond .ne 7, 3) := by decide +kernel
theorem dX9_isOver_23 : decode cX9_isOver 23 = .ok (.iconst 1, 1) := by decide +kernel
theorem dX9_isOver_24 : decode cX9_isOver 24 = .ok (.goto 4, 3) := by decide +kernel
theorem dX9_isOver_27 : decode cX9_isOver 27 = .ok (.iconst 0, 1) := by decide +kernel
theorem dX9_isOver_28 : decode cX9_isOver 28 = .ok (.ireturn, 1) := by decide +kernel
theorem dX9_go_0 : decode cX9_go 0 = .ok (.aload_n 0, 1) := by decide +kernel
theorem dX9_go_1 : decode cX9_go 1 = .ok (.invokevirtual 233, 3) := by decide +kernel
theorem dX9_go_4 : decode cX9_go 4 = .ok (.ifCond .eq 10, 3) := by decide +kernel
theorem dX9_go_7 : decode cX9_go 7 = .ok (.aload_n 0, 1) := by decide +kernel
theorem dX9_go_8 : decode cX9_go 8 = .ok (.bipush (-3), 2) := by decide +kernel
theorem dX9_go_10 : decode cX9_go 10 = .ok (.invokevirtual 96, 3) := by decide +kernel
theorem dX9_go_13 : decode cX9_go 13 = .ok (.ireturn, 1) := by decide +kernel
theorem dX9_go_14 : decode cX9_go 14 = .ok (.iload_n 1, 1) := by decide +kernel
theorem dX9_go_15 : decode cX9_go 15 = .ok (.iconst 1, 1) := by decide +kernel
theorem dX9_go_16 : decode cX9_go 16 = .ok (.sipush 300, 3) := by decide +kernel
theorem dX9_go_19 : decode cX9_go 19 = .ok (.invokestatic 112, 3) := by decide +kernel
theorem dX9_go_22 : decode cX9_go 22 = .ok (.istore_n 2, 1) := by decide +kernel
theorem dX9_go_23 : decode cX9_go 23 = .ok (.iload_n 2, 1) := by decide +kernel
theorem dX9_go_24 : decode cX9_go 24 = .ok (.ifCond .eq 9, 3) := by decide +kernel
theorem dX9_go_27 : decode cX9_go 27 = .ok (.aload_n 0, 1) := by decide +kernel
theorem dX9_go_28 : decode cX9_go 28 = .ok (.iload_n 2, 1) := by decide +kernel
theorem dX9_go_29 : decode cX9_go 29 = .ok (.invokevirtual 96, 3) := by decide +kernel
theorem dX9_go_32 : decode cX9_go 32 = .ok (.ireturn, 1) := by decide +kernel
theorem dX9_go_33 : decode cX9_go 33 = .ok (.iconst 0, 1) := by decide +kernel
theorem dX9_go_34 : decode cX9_go 34 = .ok (.istore_n 3, 1) := by decide +kernel
theorem dX9_go_35 : decode cX9_go 35 = .ok (.iload_n 3, 1) := by decide +kernel
theorem dX9_go_36 : decode cX9_go 36 = .ok (.iload_n 1, 1) := by decide +kernel
theorem dX9_go_37 : decode cX9_go 37 = .ok (.if_icmp .ge 30, 3) := by decide +kernel
theorem dX9_go_40 : decode cX9_go 40 = .ok (.aload_n 0, 1) := by decide +kernel
theorem dX9_go_41 : decode cX9_go 41 = .ok (.invokevirtual 236, 3) := by decide +kernel
theorem dX9_go_44 : decode cX9_go 44 = .ok (.ifCond .eq 17, 3) := by decide +kernel
theorem dX9_go_47 : decode cX9_go 47 = .ok (.aload_n 0, 1) := by decide +kernel
theorem dX9_go_48 : decode cX9_go 48 = .ok (.getfield 89, 3) := by decide +kernel
theorem dX9_go_51 : decode cX9_go 51 = .ok (.iconst 1, 1) := by decide +kernel
theorem dX9_go_52 : decode cX9_go 52 = .ok (.if_icmp .ne 7, 3) := by decide +kernel
theorem dX9_go_55 : decode cX9_go 55 = .ok (.iconst 2, 1) := by decide +kernel
theorem dX9_go_56 : decode cX9_go 56 = .ok (.goto 4, 3) := by decide +kernel
theorem dX9_go_59 : decode cX9_go 59 = .ok (.iconst 1, 1) := by decide +kernel
theorem dX9_go_60 : decode cX9_go 60 = .ok (.ireturn, 1) := by decide +kernel
theorem dX9_go_61 : decode cX9_go 61 = .ok (.iinc 3 1, 3) := by decide +kernel
theorem dX9_go_64 : decode cX9_go 64 = .ok (.goto (-29), 3) := by decide +kernel
theorem dX9_go_67 : decode cX9_go 67 = .ok (.iconst 0, 1) := by decide +kernel
theorem dX9_go_68 : decode cX9_go 68 = .ok (.ireturn, 1) := by decide +kernel
theorem dX9_stop_0 : decode cX9_stop 0 = .ok (.aload_n 0, 1) := by decide +kernel
theorem dX9_stop_1 : decode cX9_stop 1 = .ok (.invokevirtual 233, 3) := by decide +kernel
theorem dX9_stop_4 : decode cX9_stop 4 = .ok (.ifCond .eq 12, 3) := by decide +kernel
theorem dX9_stop_7 : decode cX9_stop 7 = .ok (.aload_n 0, 1) := by decide +kernel
theorem dX9_stop_8 : decode cX9_stop 8 = .ok (.bipush (-3), 2) := by decide +kernel
theorem dX9_stop_10 : decode cX9_stop 10 = .ok (.invokevirtual 96, 3) := by decide +kernel
theorem dX9_stop_13 : decode cX9_stop 13 = .ok (.goto 7, 3) := by decide +kernel
theorem dX9_stop_16 : decode cX9_stop 16 = .ok (.aload_n 0, 1) := by decide +kernel
theorem dX9_stop_17 : decode cX9_stop 17 = .ok (.invokevirtual 230, 3) := by decide +kernel
theorem dX9_stop_20 : decode cX9_stop 20 = .ok (.ireturn, 1) := by decide +kernel
theorem dX9_isThere_0 : decode cX9_isThere 0 = .ok (.aload_n 0, 1) := by decide +kernel
theorem dX9_isThere_1 : decode cX9_isThere 1 = .ok (.iload_n 1, 1) := by decide +kernel
theorem dX9_isThere_2 : decode cX9_isThere 2 = .ok (.invokevirtual 123, 3) := by decide +kernel
theorem dX9_isThere_5 : decode cX9_isThere 5 = .ok (.ifCond .eq 17, 3) := by decide +kernel
theorem dX9_isThere_8 : decode cX9_isThere 8 = .ok (.aload_n 0, 1) := by decide +kernel
theorem dX9_isThere_9 : decode cX9_isThere 9 = .ok (.getfield 22, 3) := by decide +kernel
theorem dX9_isThere_12 : decode cX9_isThere 12 = .ok (.iload_n 1, 1) := by decide +kernel
theorem dX9_isThere_13 : decode cX9_isThere 13 = .ok (.iaload, 1) := by decide +kernel
theorem dX9_isThere_14 : decode cX9_isThere 14 = .ok (.iconst 1, 1) := by decide +kernel
theorem dX9_isThere_15 : decode cX9_isThere 15 = .ok (.if_icmp .ne 7, 3) := by decide +kernel
theorem dX9_isThere_18 : decode cX9_isThere 18 = .ok (.iconst 1, 1) := by decide +kernel
theorem dX9_isThere_19 : decode cX9_isThere 19 = .ok (.goto 4, 3) := by decide +kernel
theorem dX9_isThere_22 : decode cX9_isThere 22 = .ok (.iconst 0, 1) := by decide +kernel
theorem dX9_isThere_23 : decode cX9_isThere 23 = .ok (.ireturn, 1) := by decide +kernel
theorem dX9_sits_0 : decode cX9_sits 0 = .ok (.aload_n 0, 1) := by decide +kernel
theorem dX9_sits_1 : decode cX9_sits 1 = .ok (.iload_n 1, 1) := by decide +kernel
theorem dX9_sits_2 : decode cX9_sits 2 = .ok (.invokevirtual 239, 3) := by decide +kernel
theorem dX9_sits_5 : decode cX9_sits 5 = .ok (.ifCond .ne 9, 3) := by decide +kernel
theorem dX9_sits_8 : decode cX9_sits 8 = .ok (.aload_n 0, 1) := by decide +kernel
theorem dX9_sits_9 : decode cX9_sits 9 = .ok (.iconst (-1), 1) := by decide +kernel
theorem dX9_sits_10 : decode cX9_sits 10 = .ok (.invokevirtual 96, 3) := by decide +kernel
theorem dX9_sits_13 : decode cX9_sits 13 = .ok (.ireturn, 1) := by decide +kernel
theorem dX9_sits_14 : decode cX9_sits 14 = .ok (.aload_n 0, 1) := by decide +kernel
theorem dX9_sits_15 : decode cX9_sits 15 = .ok (.invokevirtual 209, 3) := by decide +kernel
theorem dX9_sits_18 : decode cX9_sits 18 = .ok (.aload_n 0, 1) := by decide +kernel
theorem dX9_sits_19 : decode cX9_sits 19 = .ok (.getfield 74, 3) := by decide +kernel
theorem dX9_sits_22 : decode cX9_sits 22 = .ok (.iload_n 1, 1) := by decide +kernel
theorem dX9_sits_23 : decode cX9_sits 23 = .ok (.iaload, 1) := by decide +kernel
theorem dX9_sits_24 : decode cX9_sits 24 = .ok (.ifCond .ge 8, 3) := by decide +kernel
theorem dX9_sits_27 : decode cX9_sits 27 = .ok (.bipush (-9), 2) := by decide +kernel
theorem dX9_sits_29 : decode cX9_sits 29 = .ok (.goto 9, 3) := by decide +kernel
theorem dX9_sits_32 : decode cX9_sits 32 = .ok (.aload_n 0, 1) := by decide +kernel
theorem dX9_sits_33 : decode cX9_sits 33 = .ok (.getfield 74, 3) := by decide +kernel
theorem dX9_sits_36 : decode cX9_sits 36 = .ok (.iload_n 1, 1) := by decide +kernel
theorem dX9_sits_37 : decode cX9_sits 37 = .ok (.iaload, 1) := by decide +kernel
theorem dX9_sits_38 : decode cX9_sits 38 = .ok (.ireturn, 1) := by decide +kernel
theorem dX9_would_0 : decode cX9_would 0 = .ok (.iload_n 1, 1) := by decide +kernel
theorem dX9_would_1 : decode cX9_would 1 = .ok (.iconst 0, 1) := by decide +kernel
theorem dX9_would_2 : decode cX9_would 2 = .ok (.iconst 1, 1) := by decide +kernel
theorem dX9_would_3 : decode cX9_would 3 = .ok (.invokestatic 108, 3) := by decide +kernel
theorem dX9_would_6 : decode cX9_would 6 = .ok (.ifCond .ne 10, 3) := by decide +kernel
theorem dX9_would_9 : decode cX9_would 9 = .ok (.aload_n 0, 1) := by decide +kernel
theorem dX9_would_10 : decode cX9_would 10 = .ok (.bipush (-2), 2) := by decide +kernel
theorem dX9_would_12 : decode cX9_would 12 = .ok (.invokevirtual 96, 3) := by decide +kernel
theorem dX9_would_15 : decode cX9_would 15 = .ok (.ireturn, 1) := by decide +kernel
theorem dX9_would_16 : decode cX9_would 16 = .ok (.iload_n 1, 1) := by decide +kernel
theorem dX9_would_17 : decode cX9_would 17 = .ok (.iconst 1, 1) := by decide +kernel
theorem dX9_would_18 : decode cX9_would 18 = .ok (.if_icmp .ne 8, 3) := by decide +kernel
theorem dX9_would_21 : decode cX9_would 21 = .ok (.aload_n 0, 1) := by decide +kernel
theorem dX9_would_22 : decode cX9_would 22 = .ok (.invokevirtual 215, 3) := by decide +kernel
theorem dX9_would_25 : decode cX9_would 25 = .ok (.ireturn, 1) := by decide +kernel
theorem dX9_would_26 : decode cX9_would 26 = .ok (.aload_n 0, 1) := by decide +kernel
theorem dX9_would_27 : decode cX9_would 27 = .ok (.invokevirtual 209, 3) := by decide +kernel
theorem dX9_would_30 : decode cX9_would 30 = .ok (.aload_n 0, 1) := by decide +kernel
theorem dX9_would_31 : decode cX9_would 31 = .ok (.invokevirtual 212, 3) := by decide +kernel
theorem dX9_would_34 : decode cX9_would 34 = .ok (.ireturn, 1) := by decide +kernel
theorem dX9_findOdds_0 : decode cX9_findOdds 0 = .ok (.aload_n 0, 1) := by decide +kernel
theorem dX9_findOdds_1 : decode cX9_findOdds 1 = .ok (.iconst 1, 1) := by decide +kernel
theorem dX9_findOdds_2 : decode cX9_findOdds 2 = .ok (.iconst 1, 1) := by decide +kernel
theorem dX9_findOdds_3 : decode cX9_findOdds 3 = .ok (.invokevirtual 163, 3) := by decide +kernel
theorem dX9_findOdds_6 : decode cX9_findOdds 6 = .ok (.iconst 0, 1) := by decide +kernel
theorem dX9_findOdds_7 : decode cX9_findOdds 7 = .ok (.istore 4, 2) := by decide +kernel
theorem dX9_findOdds_9 : decode cX9_findOdds 9 = .ok (.iload 4, 2) := by decide +kernel
theorem dX9_findOdds_11 : decode cX9_findOdds 11 = .ok (.bipush 12, 2) := by decide +kernel
theorem dX9_findOdds_13 : decode cX9_findOdds 13 = .ok (.if_icmp .ge 17, 3) := by decide +kernel
theorem dX9_findOdds_16 : decode cX9_findOdds 16 = .ok (.aload_n 0, 1) := by decide +kernel
theorem dX9_findOdds_17 : decode cX9_findOdds 17 = .ok (.getfield 77, 3) := by decide +kernel
theorem dX9_findOdds_20 : decode cX9_findOdds 20 = .ok (.iload 4, 2) := by decide +kernel
theorem dX9_findOdds_22 : decode cX9_findOdds 22 = .ok (.iconst 0, 1) := by decide +kernel
theorem dX9_findOdds_23 : decode cX9_findOdds 23 = .ok (.iastore, 1) := by decide +kernel
theorem dX9_findOdds_24 : decode cX9_findOdds 24 = .ok (.iinc 4 1, 3) := by decide +kernel
theorem dX9_findOdds_27 : decode cX9_findOdds 27 = .ok (.goto (-18), 3) := by decide +kernel
theorem dX9_findOdds_30 : decode cX9_findOdds 30 = .ok (.aload_n 0, 1) := by decide +kernel
theorem dX9_findOdds_31 : decode cX9_findOdds 31 = .ok (.iconst 0, 1) := by decide +kernel
theorem dX9_findOdds_32 : decode cX9_findOdds 32 = .ok (.putfield 242, 3) := by decide +kernel
theorem dX9_findOdds_35 : decode cX9_findOdds 35 = .ok (.aload_n 0, 1) := by decide +kernel
theorem dX9_findOdds_36 : decode cX9_findOdds 36 = .ok (.iconst 0, 1) := by decide +kernel
theorem dX9_findOdds_37 : decode cX9_findOdds 37 = .ok (.putfield 245, 3) := by decide +kernel
theorem dX9_findOdds_40 : decode cX9_findOdds 40 = .ok (.iconst 0, 1) := by decide +kernel
theorem dX9_findOdds_41 : decode cX9_findOdds 41 = .ok (.istore 4, 2) := by decide +kernel
theorem dX9_findOdds_43 : decode cX9_findOdds 43 = .ok (.iload 4, 2) := by decide +kernel
theorem dX9_findOdds_45 : decode cX9_findOdds 45 = .ok (.iload_n 1, 1) := by decide +kernel
theorem dX9_findOdds_46 : decode cX9_findOdds 46 = .ok (.if_icmp .ge 145, 3) := by decide +kernel
theorem dX9_findOdds_49 : decode cX9_findOdds 49 = .ok (.aload_n 0, 1) := by decide +kernel
theorem dX9_findOdds_50 : decode cX9_findOdds 50 = .ok (.invokevirtual 224, 3) := by decide +kernel
theorem dX9_findOdds_53 : decode cX9_findOdds 53 = .ok (.aload_n 0, 1) := by decide +kernel
theorem dX9_findOdds_54 : decode cX9_findOdds 54 = .ok (.invokevirtual 209, 3) := by decide +kernel
theorem dX9_findOdds_57 : decode cX9_findOdds 57 = .ok (.iconst 0, 1) := by decide +kernel
theorem dX9_findOdds_58 : decode cX9_findOdds 58 = .ok (.istore 5, 2) := by decide +kernel
theorem dX9_findOdds_60 : decode cX9_findOdds 60 = .ok (.iload 5, 2) := by decide +kernel
theorem dX9_findOdds_62 : decode cX9_findOdds 62 = .ok (.aload_n 0, 1) := by decide +kernel
theorem dX9_findOdds_63 : decode cX9_findOdds 63 = .ok (.getfield 86, 3) := by decide +kernel
theorem dX9_findOdds_66 : decode cX9_findOdds 66 = .ok (.if_icmp .ge 34, 3) := by decide +kernel
theorem dX9_findOdds_69 : decode cX9_findOdds 69 = .ok (.aload_n 0, 1) := by decide +kernel
theorem dX9_findOdds_70 : decode cX9_findOdds 70 = .ok (.getfield 77, 3) := by decide +kernel
theorem dX9_findOdds_73 : decode cX9_findOdds 73 = .ok (.iload 5, 2) := by decide +kernel
theorem dX9_findOdds_75 : decode cX9_findOdds 75 = .ok (.dup2, 1) := by decide +kernel
theorem dX9_findOdds_76 : decode cX9_findOdds 76 = .ok (.iaload, 1) := by decide +kernel
theorem dX9_findOdds_77 : decode cX9_findOdds 77 = .ok (.aload_n 0, 1) := by decide +kernel
theorem dX9_findOdds_78 : decode cX9_findOdds 78 = .ok (.getfield 74, 3) := by decide +kernel
theorem dX9_findOdds_81 : decode cX9_findOdds 81 = .ok (.iload 5, 2) := by decide +kernel
theorem dX9_findOdds_83 : decode cX9_findOdds 83 = .ok (.iaload, 1) := by decide +kernel
theorem dX9_findOdds_84 : decode cX9_findOdds 84 = .ok (.ifCond .lt 7, 3) := by decide +kernel
theorem dX9_findOdds_87 : decode cX9_findOdds 87 = .ok (.iconst 1, 1) := by decide +kernel
theorem dX9_findOdds_88 : decode cX9_findOdds 88 = .ok (.goto 4, 3) := by decide +kernel
theorem dX9_findOdds_91 : decode cX9_findOdds 91 = .ok (.iconst 0, 1) := by decide +kernel
theorem dX9_findOdds_92 : decode cX9_findOdds 92 = .ok (.iadd, 1) := by decide +kernel
theorem dX9_findOdds_93 : decode cX9_findOdds 93 = .ok (.iastore, 1) := by decide +kernel
theorem dX9_findOdds_94 : decode cX9_findOdds 94 = .ok (.iinc 5 1, 3) := by decide +kernel
theorem dX9_findOdds_97 : decode cX9_findOdds 97 = .ok (.goto (-37), 3) := by decide +kernel
theorem dX9_findOdds_100 : decode cX9_findOdds 100 = .ok (.iload_n 2, 1) := by decide +kernel
theorem dX9_findOdds_101 : decode cX9_findOdds 101 = .ok (.ifCond .ge 6, 3) := by decide +kernel
theorem dX9_findOdds_104 : decode cX9_findOdds 104 = .ok (.goto 81, 3) := by decide +kernel
theorem dX9_findOdds_107 : decode cX9_findOdds 107 = .ok (.aload_n 0, 1) := by decide +kernel
theorem dX9_findOdds_108 : decode cX9_findOdds 108 = .ok (.dup, 1) := by decide +kernel
theorem dX9_findOdds_109 : decode cX9_findOdds 109 = .ok (.getfield 242, 3) := by decide +kernel
theorem dX9_findOdds_112 : decode cX9_findOdds 112 = .ok (.aload_n 0, 1) := by decide +kernel
theorem dX9_findOdds_113 : decode cX9_findOdds 113 = .ok (.getfield 74, 3) := by decide +kernel
theorem dX9_findOdds_116 : decode cX9_findOdds 116 = .ok (.iload_n 2, 1) := by decide +kernel
theorem dX9_findOdds_117 : decode cX9_findOdds 117 = .ok (.iaload, 1) := by decide +kernel
theorem dX9_findOdds_118 : decode cX9_findOdds 118 = .ok (.ifCond .ge 12, 3) := by decide +kernel
theorem dX9_findOdds_121 : decode cX9_findOdds 121 = .ok (.aload_n 0, 1) := by decide +kernel
theorem dX9_findOdds_122 : decode cX9_findOdds 122 = .ok (.getfield 74, 3) := by decide +kernel
theorem dX9_findOdds_125 : decode cX9_findOdds 125 = .ok (.iload_n 3, 1) := by decide +kernel
theorem dX9_findOdds_126 : decode cX9_findOdds 126 = .ok (.iaload, 1) := by decide +kernel
theorem dX9_findOdds_127 : decode cX9_findOdds 127 = .ok (.ifCond .lt 7, 3) := by decide +kernel
theorem dX9_findOdds_130 : decode cX9_findOdds 130 = .ok (.iconst 1, 1) := by decide +kernel
theorem dX9_findOdds_131 : decode cX9_findOdds 131 = .ok (.goto 4, 3) := by decide +kernel
theorem dX9_findOdds_134 : decode cX9_findOdds 134 = .ok (.iconst 0, 1) := by decide +kernel
theorem dX9_findOdds_135 : decode cX9_findOdds 135 = .ok (.iadd, 1) := by decide +kernel
theorem dX9_findOdds_136 : decode cX9_findOdds 136 = .ok (.putfield 242, 3) := by decide +kernel
theorem dX9_findOdds_139 : decode cX9_findOdds 139 = .ok (.aload_n 0, 1) := by decide +kernel
theorem dX9_findOdds_140 : decode cX9_findOdds 140 = .ok (.dup, 1) := by decide +kernel
theorem dX9_findOdds_141 : decode cX9_findOdds 141 = .ok (.getfield 245, 3) := by decide +kernel
theorem dX9_findOdds_144 : decode cX9_findOdds 144 = .ok (.aload_n 0, 1) := by decide +kernel
theorem dX9_findOdds_145 : decode cX9_findOdds 145 = .ok (.getfield 74, 3) := by decide +kernel
theorem dX9_findOdds_148 : decode cX9_findOdds 148 = .ok (.iload_n 3, 1) := by decide +kernel
theorem dX9_findOdds_149 : decode cX9_findOdds 149 = .ok (.iaload, 1) := by decide +kernel
theorem dX9_findOdds_150 : decode cX9_findOdds 150 = .ok (.ifCond .ge 26, 3) := by decide +kernel
theorem dX9_findOdds_153 : decode cX9_findOdds 153 = .ok (.aload_n 0, 1) := by decide +kernel
theorem dX9_findOdds_154 : decode cX9_findOdds 154 = .ok (.getfield 74, 3) := by decide +kernel
theorem dX9_findOdds_157 : decode cX9_findOdds 157 = .ok (.iload_n 2, 1) := by decide +kernel
theorem dX9_findOdds_158 : decode cX9_findOdds 158 = .ok (.iaload, 1) := by decide +kernel
theorem dX9_findOdds_159 : decode cX9_findOdds 159 = .ok (.ifCond .lt 21, 3) := by decide +kernel
theorem dX9_findOdds_162 : decode cX9_findOdds 162 = .ok (.aload_n 0, 1) := by decide +kernel
theorem dX9_findOdds_163 : decode cX9_findOdds 163 = .ok (.iload_n 3, 1) := by decide +kernel
theorem dX9_findOdds_164 : decode cX9_findOdds 164 = .ok (.aload_n 0, 1) := by decide +kernel
theorem dX9_findOdds_165 : decode cX9_findOdds 165 = .ok (.getfield 74, 3) := by decide +kernel
theorem dX9_findOdds_168 : decode cX9_findOdds 168 = .ok (.iload_n 2, 1) := by decide +kernel
theorem dX9_findOdds_169 : decode cX9_findOdds 169 = .ok (.iaload, 1) := by decide +kernel
theorem dX9_findOdds_170 : decode cX9_findOdds 170 = .ok (.invokevirtual 193, 3) := by decide +kernel
theorem dX9_findOdds_173 : decode cX9_findOdds 173 = .ok (.ifCond .eq 7, 3) := by decide +kernel
theorem dX9_findOdds_176 : decode cX9_findOdds 176 = .ok (.iconst 1, 1) := by decide +kernel
theorem dX9_findOdds_177 : decode cX9_findOdds 177 = .ok (.goto 4, 3) := by decide +kernel
theorem dX9_findOdds_180 : decode cX9_findOdds 180 = .ok (.iconst 0, 1) := by decide +kernel
theorem dX9_findOdds_181 : decode cX9_findOdds 181 = .ok (.iadd, 1) := by decide +kernel
theorem dX9_findOdds_182 : decode cX9_findOdds 182 = .ok (.putfield 245, 3) := by decide +kernel
theorem dX9_findOdds_185 : decode cX9_findOdds 185 = .ok (.iinc 4 1, 3) := by decide +kernel
theorem dX9_findOdds_188 : decode cX9_findOdds 188 = .ok (.goto (-145), 3) := by decide +kernel
theorem dX9_findOdds_191 : decode cX9_findOdds 191 = .ok (.aload_n 0, 1) := by decide +kernel
theorem dX9_findOdds_192 : decode cX9_findOdds 192 = .ok (.iconst 1, 1) := by decide +kernel
theorem dX9_findOdds_193 : decode cX9_findOdds 193 = .ok (.iconst 0, 1) := by decide +kernel
theorem dX9_findOdds_194 : decode cX9_findOdds 194 = .ok (.invokevirtual 163, 3) := by decide +kernel
theorem dX9_findOdds_197 : decode cX9_findOdds 197 = .ok (.return_, 1) := by decide +kernel
theorem dX9_oddsOf_0 : decode cX9_oddsOf 0 = .ok (.aload_n 0, 1) := by decide +kernel
theorem dX9_oddsOf_1 : decode cX9_oddsOf 1 = .ok (.iload_n 2, 1) := by decide +kernel
theorem dX9_oddsOf_2 : decode cX9_oddsOf 2 = .ok (.iconst (-1), 1) := by decide +kernel
theorem dX9_oddsOf_3 : decode cX9_oddsOf 3 = .ok (.iconst (-1), 1) := by decide +kernel
theorem dX9_oddsOf_4 : decode cX9_oddsOf 4 = .ok (.invokevirtual 248, 3) := by decide +kernel
theorem dX9_oddsOf_7 : decode cX9_oddsOf 7 = .ok (.aload_n 0, 1) := by decide +kernel
theorem dX9_oddsOf_8 : decode cX9_oddsOf 8 = .ok (.getfield 77, 3) := by decide +kernel
theorem dX9_oddsOf_11 : decode cX9_oddsOf 11 = .ok (.iload_n 1, 1) := by decide +kernel
theorem dX9_oddsOf_12 : decode cX9_oddsOf 12 = .ok (.iaload, 1) := by decide +kernel
theorem dX9_oddsOf_13 : decode cX9_oddsOf 13 = .ok (.ireturn, 1) := by decide +kernel
theorem dX9_notOdds_0 : decode cX9_notOdds 0 = .ok (.aload_n 0, 1) := by decide +kernel
theorem dX9_notOdds_1 : decode cX9_notOdds 1 = .ok (.iload_n 1, 1) := by decide +kernel
theorem dX9_notOdds_2 : decode cX9_notOdds 2 = .ok (.invokevirtual 239, 3) := by decide +kernel
theorem dX9_notOdds_5 : decode cX9_notOdds 5 = .ok (.ifCond .ne 7, 3) := by decide +kernel
theorem dX9_notOdds_8 : decode cX9_notOdds 8 = .ok (.iconst (-1), 1) := by decide +kernel
theorem dX9_notOdds_9 : decode cX9_notOdds 9 = .ok (.goto 11, 3) := by decide +kernel
theorem dX9_notOdds_12 : decode cX9_notOdds 12 = .ok (.iload_n 2, 1) := by decide +kernel
theorem dX9_notOdds_13 : decode cX9_notOdds 13 = .ok (.iconst 1, 1) := by decide +kernel
theorem dX9_notOdds_14 : decode cX9_notOdds 14 = .ok (.sipush 200, 3) := by decide +kernel
theorem dX9_notOdds_17 : decode cX9_notOdds 17 = .ok (.invokestatic 112, 3) := by decide +kernel
theorem dX9_notOdds_20 : decode cX9_notOdds 20 = .ok (.ireturn, 1) := by decide +kernel
theorem dX9_odds_0 : decode cX9_odds 0 = .ok (.aload_n 0, 1) := by decide +kernel
theorem dX9_odds_1 : decode cX9_odds 1 = .ok (.iload_n 1, 1) := by decide +kernel
theorem dX9_odds_2 : decode cX9_odds 2 = .ok (.iload_n 2, 1) := by decide +kernel
theorem dX9_odds_3 : decode cX9_odds 3 = .ok (.invokevirtual 251, 3) := by decide +kernel
theorem dX9_odds_6 : decode cX9_odds 6 = .ok (.istore_n 3, 1) := by decide +kernel
theorem dX9_odds_7 : decode cX9_odds 7 = .ok (.iload_n 3, 1) := by decide +kernel
theorem dX9_odds_8 : decode cX9_odds 8 = .ok (.ifCond .eq 11, 3) := by decide +kernel
theorem dX9_odds_11 : decode cX9_odds 11 = .ok (.aload_n 0, 1) := by decide +kernel
theorem dX9_odds_12 : decode cX9_odds 12 = .ok (.iload_n 3, 1) := by decide +kernel
theorem dX9_odds_13 : decode cX9_odds 13 = .ok (.invokevirtual 96, 3) := by decide +kernel
theorem dX9_odds_16 : decode cX9_odds 16 = .ok (.goto 9, 3) := by decide +kernel
theorem dX9_odds_19 : decode cX9_odds 19 = .ok (.aload_n 0, 1) := by decide +kernel
theorem dX9_odds_20 : decode cX9_odds 20 = .ok (.iload_n 1, 1) := by decide +kernel
theorem dX9_odds_21 : decode cX9_odds 21 = .ok (.iload_n 2, 1) := by decide +kernel
theorem dX9_odds_22 : decode cX9_odds 22 = .ok (.invokevirtual 254, 3) := by decide +kernel
theorem dX9_odds_25 : decode cX9_odds 25 = .ok (.ireturn, 1) := by decide +kernel
theorem dX9_fair_0 : decode cX9_fair 0 = .ok (.iload_n 1, 1) := by decide +kernel
theorem dX9_fair_1 : decode cX9_fair 1 = .ok (.iconst 1, 1) := by decide +kernel
theorem dX9_fair_2 : decode cX9_fair 2 = .ok (.sipush 200, 3) := by decide +kernel
theorem dX9_fair_5 : decode cX9_fair 5 = .ok (.invokestatic 112, 3) := by decide +kernel
theorem dX9_fair_8 : decode cX9_fair 8 = .ok (.istore_n 2, 1) := by decide +kernel
theorem dX9_fair_9 : decode cX9_fair 9 = .ok (.iload_n 2, 1) := by decide +kernel
theorem dX9_fair_10 : decode cX9_fair 10 = .ok (.ifCond .eq 9, 3) := by decide +kernel
theorem dX9_fair_13 : decode cX9_fair 13 = .ok (.aload_n 0, 1) := by decide +kernel
theorem dX9_fair_14 : decode cX9_fair 14 = .ok (.iload_n 2, 1) := by decide +kernel
theorem dX9_fair_15 : decode cX9_fair 15 = .ok (.invokevirtual 96, 3) := by decide +kernel
theorem dX9_fair_18 : decode cX9_fair 18 = .ok (.ireturn, 1) := by decide +kernel
theorem dX9_fair_19 : decode cX9_fair 19 = .ok (.aload_n 0, 1) := by decide +kernel
theorem dX9_fair_20 : decode cX9_fair 20 = .ok (.iload_n 1, 1) := by decide +kernel
theorem dX9_fair_21 : decode cX9_fair 21 = .ok (.iconst (-1), 1) := by decide +kernel
theorem dX9_fair_22 : decode cX9_fair 22 = .ok (.iconst (-1), 1) := by decide +kernel
theorem dX9_fair_23 : decode cX9_fair 23 = .ok (.invokevirtual 248, 3) := by decide +kernel
theorem dX9_fair_26 : decode cX9_fair 26 = .ok (.iconst (-1), 1) := by decide +kernel
theorem dX9_fair_27 : decode cX9_fair 27 = .ok (.istore_n 3, 1) := by decide +kernel
theorem dX9_fair_28 : decode cX9_fair 28 = .ok (.iconst 0, 1) := by decide +kernel
theorem dX9_fair_29 : decode cX9_fair 29 = .ok (.istore 4, 2) := by decide +kernel
theorem dX9_fair_31 : decode cX9_fair 31 = .ok (.iconst 0, 1) := by decide +kernel
theorem dX9_fair_32 : decode cX9_fair 32 = .ok (.istore 5, 2) := by decide +kernel
theorem dX9_fair_34 : decode cX9_fair 34 = .ok (.iload 5, 2) := by decide +kernel
theorem dX9_fair_36 : decode cX9_fair 36 = .ok (.aload_n 0, 1) := by decide +kernel
theorem dX9_fair_37 : decode cX9_fair 37 = .ok (.getfield 86, 3) := by decide +kernel
theorem dX9_fair_40 : decode cX9_fair 40 = .ok (.if_icmp .ge 75, 3) := by decide +kernel
theorem dX9_fair_43 : decode cX9_fair 43 = .ok (.aload_n 0, 1) := by decide +kernel
theorem dX9_fair_44 : decode cX9_fair 44 = .ok (.getfield 22, 3) := by decide +kernel
theorem dX9_fair_47 : decode cX9_fair 47 = .ok (.iload 5, 2) := by decide +kernel
theorem dX9_fair_49 : decode cX9_fair 49 = .ok (.iaload, 1) := by decide +kernel
theorem dX9_fair_50 : decode cX9_fair 50 = .ok (.ifCond .ne 6, 3) := by decide +kernel
theorem dX9_fair_53 : decode cX9_fair 53 = .ok (.goto 56, 3) := by decide +kernel
theorem dX9_fair_56 : decode cX9_fair 56 = .ok (.iload_n 3, 1) := by decide +kernel
theorem dX9_fair_57 : decode cX9_fair 57 = .ok (.ifCond .lt 15, 3) := by decide +kernel
theorem dX9_fair_60 : decode cX9_fair 60 = .ok (.aload_n 0, 1) := by decide +kernel
theorem dX9_fair_61 : decode cX9_fair 61 = .ok (.getfield 77, 3) := by decide +kernel
theorem dX9_fair_64 : decode cX9_fair 64 = .ok (.iload 5, 2) := by decide +kernel
theorem dX9_fair_66 : decode cX9_fair 66 = .ok (.iaload, 1) := by decide +kernel
theorem dX9_fair_67 : decode cX9_fair 67 = .ok (.iload 4, 2) := by decide +kernel
theorem dX9_fair_69 : decode cX9_fair 69 = .ok (.if_icmp .ge 13, 3) := by decide +kernel
theorem dX9_fair_72 : decode cX9_fair 72 = .ok (.aload_n 0, 1) := by decide +kernel
theorem dX9_fair_73 : decode cX9_fair 73 = .ok (.getfield 77, 3) := by decide +kernel
theorem dX9_fair_76 : decode cX9_fair 76 = .ok (.iload 5, 2) := by decide +kernel
theorem dX9_fair_78 : decode cX9_fair 78 = .ok (.iaload, 1) := by decide +kernel
theorem dX9_fair_79 : decode cX9_fair 79 = .ok (.goto 5, 3) := by decide +kernel
theorem dX9_fair_82 : decode cX9_fair 82 = .ok (.iload 4, 2) := by decide +kernel
theorem dX9_fair_84 : decode cX9_fair 84 = .ok (.istore 4, 2) := by decide +kernel
theorem dX9_fair_86 : decode cX9_fair 86 = .ok (.aload_n 0, 1) := by decide +kernel
theorem dX9_fair_87 : decode cX9_fair 87 = .ok (.getfield 77, 3) := by decide +kernel
theorem dX9_fair_90 : decode cX9_fair 90 = .ok (.iload 5, 2) := by decide +kernel
theorem dX9_fair_92 : decode cX9_fair 92 = .ok (.iaload, 1) := by decide +kernel
theorem dX9_fair_93 : decode cX9_fair 93 = .ok (.iload_n 3, 1) := by decide +kernel
theorem dX9_fair_94 : decode cX9_fair 94 = .ok (.if_icmp .le 13, 3) := by decide +kernel
theorem dX9_fair_97 : decode cX9_fair 97 = .ok (.aload_n 0, 1) := by decide +kernel
theorem dX9_fair_98 : decode cX9_fair 98 = .ok (.getfield 77, 3) := by decide +kernel
theorem dX9_fair_101 : decode cX9_fair 101 = .ok (.iload 5, 2) := by decide +kernel
theorem dX9_fair_103 : decode cX9_fair 103 = .ok (.iaload, 1) := by decide +kernel
theorem dX9_fair_104 : decode cX9_fair 104 = .ok (.goto 4, 3) := by decide +kernel
theorem dX9_fair_107 : decode cX9_fair 107 = .ok (.iload_n 3, 1) := by decide +kernel
theorem dX9_fair_108 : decode cX9_fair 108 = .ok (.istore_n 3, 1) := by decide +kernel
theorem dX9_fair_109 : decode cX9_fair 109 = .ok (.iinc 5 1, 3) := by decide +kernel
theorem dX9_fair_112 : decode cX9_fair 112 = .ok (.goto (-78), 3) := by decide +kernel
theorem dX9_fair_115 : decode cX9_fair 115 = .ok (.iload_n 3, 1) := by decide +kernel
theorem dX9_fair_116 : decode cX9_fair 116 = .ok (.ifCond .ge 7, 3) := by decide +kernel
theorem dX9_fair_119 : decode cX9_fair 119 = .ok (.iconst 0, 1) := by decide +kernel
theorem dX9_fair_120 : decode cX9_fair 120 = .ok (.goto 7, 3) := by decide +kernel
theorem dX9_fair_123 : decode cX9_fair 123 = .ok (.iload_n 3, 1) := by decide +kernel
theorem dX9_fair_124 : decode cX9_fair 124 = .ok (.iload 4, 2) := by decide +kernel
theorem dX9_fair_126 : decode cX9_fair 126 = .ok (.isub, 1) := by decide +kernel
theorem dX9_fair_127 : decode cX9_fair 127 = .ok (.ireturn, 1) := by decide +kernel
theorem dX9_oddsBy_0 : decode cX9_oddsBy 0 = .ok (.aload_n 0, 1) := by decide +kernel
theorem dX9_oddsBy_1 : decode cX9_oddsBy 1 = .ok (.getfield 31, 3) := by decide +kernel
theorem dX9_oddsBy_4 : decode cX9_oddsBy 4 = .ok (.iload_n 1, 1) := by decide +kernel
theorem dX9_oddsBy_5 : decode cX9_oddsBy 5 = .ok (.iaload, 1) := by decide +kernel
theorem dX9_oddsBy_6 : decode cX9_oddsBy 6 = .ok (.istore 4, 2) := by decide +kernel
theorem dX9_oddsBy_8 : decode cX9_oddsBy 8 = .ok (.aload_n 0, 1) := by decide +kernel
theorem dX9_oddsBy_9 : decode cX9_oddsBy 9 = .ok (.getfield 31, 3) := by decide +kernel
theorem dX9_oddsBy_12 : decode cX9_oddsBy 12 = .ok (.iload_n 1, 1) := by decide +kernel
theorem dX9_oddsBy_13 : decode cX9_oddsBy 13 = .ok (.iload_n 2, 1) := by decide +kernel
theorem dX9_oddsBy_14 : decode cX9_oddsBy 14 = .ok (.iastore, 1) := by decide +kernel
theorem dX9_oddsBy_15 : decode cX9_oddsBy 15 = .ok (.aload_n 0, 1) := by decide +kernel
theorem dX9_oddsBy_16 : decode cX9_oddsBy 16 = .ok (.iload_n 1, 1) := by decide +kernel
theorem dX9_oddsBy_17 : decode cX9_oddsBy 17 = .ok (.iload_n 3, 1) := by decide +kernel
theorem dX9_oddsBy_18 : decode cX9_oddsBy 18 = .ok (.invokevirtual 254, 3) := by decide +kernel
theorem dX9_oddsBy_21 : decode cX9_oddsBy 21 = .ok (.istore 5, 2) := by decide +kernel
theorem dX9_oddsBy_23 : decode cX9_oddsBy 23 = .ok (.aload_n 0, 1) := by decide +kernel
theorem dX9_oddsBy_24 : decode cX9_oddsBy 24 = .ok (.getfield 31, 3) := by decide +kernel
theorem dX9_oddsBy_27 : decode cX9_oddsBy 27 = .ok (.iload_n 1, 1) := by decide +kernel
theorem dX9_oddsBy_28 : decode cX9_oddsBy 28 = .ok (.iload 4, 2) := by decide +kernel
theorem dX9_oddsBy_30 : decode cX9_oddsBy 30 = .ok (.iastore, 1) := by decide +kernel
theorem dX9_oddsBy_31 : decode cX9_oddsBy 31 = .ok (.iload 5, 2) := by decide +kernel
theorem dX9_oddsBy_33 : decode cX9_oddsBy 33 = .ok (.ireturn, 1) := by decide +kernel
theorem dX9_bestSlow_0 : decode cX9_bestSlow 0 = .ok (.aload_n 0, 1) := by decide +kernel
theorem dX9_bestSlow_1 : decode cX9_bestSlow 1 = .ok (.iload_n 1, 1) := by decide +kernel
theorem dX9_bestSlow_2 : decode cX9_bestSlow 2 = .ok (.iload_n 2, 1) := by decide +kernel
theorem dX9_bestSlow_3 : decode cX9_bestSlow 3 = .ok (.invokevirtual 251, 3) := by decide +kernel
theorem dX9_bestSlow_6 : decode cX9_bestSlow 6 = .ok (.istore_n 3, 1) := by decide +kernel
theorem dX9_bestSlow_7 : decode cX9_bestSlow 7 = .ok (.iload_n 3, 1) := by decide +kernel
theorem dX9_bestSlow_8 : decode cX9_bestSlow 8 = .ok (.ifCond .eq 9, 3) := by decide +kernel
theorem dX9_bestSlow_11 : decode cX9_bestSlow 11 = .ok (.aload_n 0, 1) := by decide +kernel
theorem dX9_bestSlow_12 : decode cX9_bestSlow 12 = .ok (.iload_n 3, 1) := by decide +kernel
theorem dX9_bestSlow_13 : decode cX9_bestSlow 13 = .ok (.invokevirtual 96, 3) := by decide +kernel
theorem dX9_bestSlow_16 : decode cX9_bestSlow 16 = .ok (.ireturn, 1) := by decide +kernel
theorem dX9_bestSlow_17 : decode cX9_bestSlow 17 = .ok (.iconst 0, 1) := by decide +kernel
theorem dX9_bestSlow_18 : decode cX9_bestSlow 18 = .ok (.istore 4, 2) := by decide +kernel
theorem dX9_bestSlow_20 : decode cX9_bestSlow 20 = .ok (.iconst (-1), 1) := by decide +kernel
theorem dX9_bestSlow_21 : decode cX9_bestSlow 21 = .ok (.istore 5, 2) := by decide +kernel
theorem dX9_bestSlow_23 : decode cX9_bestSlow 23 = .ok (.bipush 10, 2) := by decide +kernel
theorem dX9_bestSlow_25 : decode cX9_bestSlow 25 = .ok (.istore 6, 2) := by decide +kernel
theorem dX9_bestSlow_27 : decode cX9_bestSlow 27 = .ok (.iload 6, 2) := by decide +kernel
theorem dX9_bestSlow_29 : decode cX9_bestSlow 29 = .ok (.bipush 100, 2) := by decide +kernel
theorem dX9_bestSlow_31 : decode cX9_bestSlow 31 = .ok (.if_icmp .ge 37, 3) := by decide +kernel
theorem dX9_bestSlow_34 : decode cX9_bestSlow 34 = .ok (.aload_n 0, 1) := by decide +kernel
theorem dX9_bestSlow_35 : decode cX9_bestSlow 35 = .ok (.iload_n 1, 1) := by decide +kernel
theorem dX9_bestSlow_36 : decode cX9_bestSlow 36 = .ok (.iload 6, 2) := by decide +kernel
theorem dX9_bestSlow_38 : decode cX9_bestSlow 38 = .ok (.iload_n 2, 1) := by decide +kernel
theorem dX9_bestSlow_39 : decode cX9_bestSlow 39 = .ok (.invokevirtual 257, 3) := by decide +kernel
theorem dX9_bestSlow_42 : decode cX9_bestSlow 42 = .ok (.istore 7, 2) := by decide +kernel
theorem dX9_bestSlow_44 : decode cX9_bestSlow 44 = .ok (.iload 7, 2) := by decide +kernel
theorem dX9_bestSlow_46 : decode cX9_bestSlow 46 = .ok (.iload 5, 2) := by decide +kernel
theorem dX9_bestSlow_48 : decode cX9_bestSlow 48 = .ok (.if_icmp .gt 6, 3) := by decide +kernel
theorem dX9_bestSlow_51 : decode cX9_bestSlow 51 = .ok (.goto 11, 3) := by decide +kernel
theorem dX9_bestSlow_54 : decode cX9_bestSlow 54 = .ok (.iload 7, 2) := by decide +kernel
theorem dX9_bestSlow_56 : decode cX9_bestSlow 56 = .ok (.istore 5, 2) := by decide +kernel
theorem dX9_bestSlow_58 : decode cX9_bestSlow 58 = .ok (.iload 6, 2) := by decide +kernel
theorem dX9_bestSlow_60 : decode cX9_bestSlow 60 = .ok (.istore 4, 2) := by decide +kernel
theorem dX9_bestSlow_62 : decode cX9_bestSlow 62 = .ok (.iinc 6 10, 3) := by decide +kernel
theorem dX9_bestSlow_65 : decode cX9_bestSlow 65 = .ok (.goto (-38), 3) := by decide +kernel
theorem dX9_bestSlow_68 : decode cX9_bestSlow 68 = .ok (.iload 4, 2) := by decide +kernel
theorem dX9_bestSlow_70 : decode cX9_bestSlow 70 = .ok (.ireturn, 1) := by decide +kernel
theorem dX9_cheat_0 : decode cX9_cheat 0 = .ok (.aload_n 0, 1) := by decide +kernel
theorem dX9_cheat_1 : decode cX9_cheat 1 = .ok (.iload_n 1, 1) := by decide +kernel
theorem dX9_cheat_2 : decode cX9_cheat 2 = .ok (.iload_n 2, 1) := by decide +kernel
theorem dX9_cheat_3 : decode cX9_cheat 3 = .ok (.invokevirtual 251, 3) := by decide +kernel
theorem dX9_cheat_6 : decode cX9_cheat 6 = .ok (.istore_n 3, 1) := by decide +kernel
theorem dX9_cheat_7 : decode cX9_cheat 7 = .ok (.iload_n 3, 1) := by decide +kernel
theorem dX9_cheat_8 : decode cX9_cheat 8 = .ok (.ifCond .eq 9, 3) := by decide +kernel
theorem dX9_cheat_11 : decode cX9_cheat 11 = .ok (.aload_n 0, 1) := by decide +kernel
theorem dX9_cheat_12 : decode cX9_cheat 12 = .ok (.iload_n 3, 1) := by decide +kernel
theorem dX9_cheat_13 : decode cX9_cheat 13 = .ok (.invokevirtual 96, 3) := by decide +kernel
theorem dX9_cheat_16 : decode cX9_cheat 16 = .ok (.ireturn, 1) := by decide +kernel
