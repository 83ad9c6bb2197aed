theorem dX0_init_0 : decode cX0_init 0 = .ok (.aload_n 0, 1) := by decide +kernel
theorem dX0_init_1 : decode cX0_init 1 = .ok (.invokespecial 3, 3) := by decide +kernel
theorem dX0_init_4 : decode cX0_init 4 = .ok (.aload_n 0, 1) := by decide +kernel
theorem dX0_init_5 : decode cX0_init 5 = .ok (.new 9, 3) := by decide +kernel
theorem dX0_init_8 : decode cX0_init 8 = .ok (.dup, 1) := by decide +kernel
theorem dX0_init_9 : decode cX0_init 9 = .ok (.invokespecial 11, 3) := by decide +kernel
theorem dX0_init_12 : decode cX0_init 12 = .ok (.putfield 12, 3) := by decide +kernel
theorem dX0_init_15 : decode cX0_init 15 = .ok (.aload_n 0, 1) := by decide +kernel
theorem dX0_init_16 : decode cX0_init 16 = .ok (.new 9, 3) := by decide +kernel
theorem dX0_init_19 : decode cX0_init 19 = .ok (.dup, 1) := by decide +kernel
theorem dX0_init_20 : decode cX0_init 20 = .ok (.invokespecial 11, 3) := by decide +kernel
theorem dX0_init_23 : decode cX0_init 23 = .ok (.putfield 18, 3) := by decide +kernel
theorem dX0_init_26 : decode cX0_init 26 = .ok (.aload_n 0, 1) := by decide +kernel
theorem dX0_init_27 : decode cX0_init 27 = .ok (.bipush 12, 2) := by decide +kernel
theorem dX0_init_29 : decode cX0_init 29 = .ok (.newarray .int, 2) := by decide +kernel
theorem dX0_init_31 : decode cX0_init 31 = .ok (.putfield 21, 3) := by decide +kernel
theorem dX0_init_34 : decode cX0_init 34 = .ok (.aload_n 0, 1) := by decide +kernel
theorem dX0_init_35 : decode cX0_init 35 = .ok (.iconst 0, 1) := by decide +kernel
theorem dX0_init_36 : decode cX0_init 36 = .ok (.putfield 25, 3) := by decide +kernel
theorem dX0_init_39 : decode cX0_init 39 = .ok (.aload_n 0, 1) := by decide +kernel
theorem dX0_init_40 : decode cX0_init 40 = .ok (.iconst 0, 1) := by decide +kernel
theorem dX0_init_41 : decode cX0_init 41 = .ok (.putfield 29, 3) := by decide +kernel
theorem dX0_init_44 : decode cX0_init 44 = .ok (.return_, 1) := by decide +kernel
theorem dX0_readParty_0 : decode cX0_readParty 0 = .ok (.aload_n 1, 1) := by decide +kernel
theorem dX0_readParty_1 : decode cX0_readParty 1 = .ok (.invokevirtual 32, 3) := by decide +kernel
theorem dX0_readParty_4 : decode cX0_readParty 4 = .ok (.istore_n 2, 1) := by decide +kernel
theorem dX0_readParty_5 : decode cX0_readParty 5 = .ok (.iload_n 2, 1) := by decide +kernel
theorem dX0_readParty_6 : decode cX0_readParty 6 = .ok (.ifCond .lt 9, 3) := by decide +kernel
theorem dX0_readParty_9 : decode cX0_readParty 9 = .ok (.sipush (-1000), 3) := by decide +kernel
theorem dX0_readParty_12 : decode cX0_readParty 12 = .ok (.iload_n 2, 1) := by decide +kernel
theorem dX0_readParty_13 : decode cX0_readParty 13 = .ok (.isub, 1) := by decide +kernel
theorem dX0_readParty_14 : decode cX0_readParty 14 = .ok (.ireturn, 1) := by decide +kernel
theorem dX0_readParty_15 : decode cX0_readParty 15 = .ok (.aload_n 0, 1) := by decide +kernel
theorem dX0_readParty_16 : decode cX0_readParty 16 = .ok (.getfield 18, 3) := by decide +kernel
theorem dX0_readParty_19 : decode cX0_readParty 19 = .ok (.aload_n 0, 1) := by decide +kernel
theorem dX0_readParty_20 : decode cX0_readParty 20 = .ok (.getfield 12, 3) := by decide +kernel
theorem dX0_readParty_23 : decode cX0_readParty 23 = .ok (.invokevirtual 38, 3) := by decide +kernel
theorem dX0_readParty_26 : decode cX0_readParty 26 = .ok (.aload_n 1, 1) := by decide +kernel
theorem dX0_readParty_27 : decode cX0_readParty 27 = .ok (.aload_n 0, 1) := by decide +kernel
theorem dX0_readParty_28 : decode cX0_readParty 28 = .ok (.getfield 18, 3) := by decide +kernel
theorem dX0_readParty_31 : decode cX0_readParty 31 = .ok (.invokevirtual 42, 3) := by decide +kernel
theorem dX0_readParty_34 : decode cX0_readParty 34 = .ok (.istore_n 2, 1) := by decide +kernel
theorem dX0_readParty_35 : decode cX0_readParty 35 = .ok (.iload_n 2, 1) := by decide +kernel
theorem dX0_readParty_36 : decode cX0_readParty 36 = .ok (.ifCond .lt 9, 3) := by decide +kernel
theorem dX0_readParty_39 : decode cX0_readParty 39 = .ok (.sipush (-2000), 3) := by decide +kernel
theorem dX0_readParty_42 : decode cX0_readParty 42 = .ok (.iload_n 2, 1) := by decide +kernel
theorem dX0_readParty_43 : decode cX0_readParty 43 = .ok (.isub, 1) := by decide +kernel
theorem dX0_readParty_44 : decode cX0_readParty 44 = .ok (.ireturn, 1) := by decide +kernel
theorem dX0_readParty_45 : decode cX0_readParty 45 = .ok (.aload_n 0, 1) := by decide +kernel
theorem dX0_readParty_46 : decode cX0_readParty 46 = .ok (.getfield 12, 3) := by decide +kernel
theorem dX0_readParty_49 : decode cX0_readParty 49 = .ok (.aload_n 0, 1) := by decide +kernel
theorem dX0_readParty_50 : decode cX0_readParty 50 = .ok (.getfield 18, 3) := by decide +kernel
theorem dX0_readParty_53 : decode cX0_readParty 53 = .ok (.invokevirtual 38, 3) := by decide +kernel
theorem dX0_readParty_56 : decode cX0_readParty 56 = .ok (.aload_n 1, 1) := by decide +kernel
theorem dX0_readParty_57 : decode cX0_readParty 57 = .ok (.getfield 46, 3) := by decide +kernel
theorem dX0_readParty_60 : decode cX0_readParty 60 = .ok (.ireturn, 1) := by decide +kernel
theorem dX0_oddsAt_0 : decode cX0_oddsAt 0 = .ok (.aload_n 0, 1) := by decide +kernel
theorem dX0_oddsAt_1 : decode cX0_oddsAt 1 = .ok (.getfield 18, 3) := by decide +kernel
theorem dX0_oddsAt_4 : decode cX0_oddsAt 4 = .ok (.aload_n 0, 1) := by decide +kernel
theorem dX0_oddsAt_5 : decode cX0_oddsAt 5 = .ok (.getfield 12, 3) := by decide +kernel
theorem dX0_oddsAt_8 : decode cX0_oddsAt 8 = .ok (.invokevirtual 38, 3) := by decide +kernel
theorem dX0_oddsAt_11 : decode cX0_oddsAt 11 = .ok (.aload_n 0, 1) := by decide +kernel
theorem dX0_oddsAt_12 : decode cX0_oddsAt 12 = .ok (.getfield 18, 3) := by decide +kernel
theorem dX0_oddsAt_15 : decode cX0_oddsAt 15 = .ok (.iload_n 1, 1) := by decide +kernel
theorem dX0_oddsAt_16 : decode cX0_oddsAt 16 = .ok (.invokevirtual 49, 3) := by decide +kernel
theorem dX0_oddsAt_19 : decode cX0_oddsAt 19 = .ok (.ifCond .ne 5, 3) := by decide +kernel
theorem dX0_oddsAt_22 : decode cX0_oddsAt 22 = .ok (.iconst 0, 1) := by decide +kernel
theorem dX0_oddsAt_23 : decode cX0_oddsAt 23 = .ok (.ireturn, 1) := by decide +kernel
theorem dX0_oddsAt_24 : decode cX0_oddsAt 24 = .ok (.aload_n 0, 1) := by decide +kernel
theorem dX0_oddsAt_25 : decode cX0_oddsAt 25 = .ok (.getfield 18, 3) := by decide +kernel
theorem dX0_oddsAt_28 : decode cX0_oddsAt 28 = .ok (.getfield 53, 3) := by decide +kernel
theorem dX0_oddsAt_31 : decode cX0_oddsAt 31 = .ok (.iload_n 1, 1) := by decide +kernel
theorem dX0_oddsAt_32 : decode cX0_oddsAt 32 = .ok (.aaload, 1) := by decide +kernel
theorem dX0_oddsAt_33 : decode cX0_oddsAt 33 = .ok (.iload_n 3, 1) := by decide +kernel
theorem dX0_oddsAt_34 : decode cX0_oddsAt 34 = .ok (.putfield 57, 3) := by decide +kernel
theorem dX0_oddsAt_37 : decode cX0_oddsAt 37 = .ok (.iconst 0, 1) := by decide +kernel
theorem dX0_oddsAt_38 : decode cX0_oddsAt 38 = .ok (.istore 4, 2) := by decide +kernel
theorem dX0_oddsAt_40 : decode cX0_oddsAt 40 = .ok (.iconst 0, 1) := by decide +kernel
theorem dX0_oddsAt_41 : decode cX0_oddsAt 41 = .ok (.istore 5, 2) := by decide +kernel
theorem dX0_oddsAt_43 : decode cX0_oddsAt 43 = .ok (.iload 5, 2) := by decide +kernel
theorem dX0_oddsAt_45 : decode cX0_oddsAt 45 = .ok (.iload_n 2, 1) := by decide +kernel
theorem dX0_oddsAt_46 : decode cX0_oddsAt 46 = .ok (.if_icmp .ge 30, 3) := by decide +kernel
theorem dX0_oddsAt_49 : decode cX0_oddsAt 49 = .ok (.aload_n 0, 1) := by decide +kernel
theorem dX0_oddsAt_50 : decode cX0_oddsAt 50 = .ok (.invokevirtual 62, 3) := by decide +kernel
theorem dX0_oddsAt_53 : decode cX0_oddsAt 53 = .ok (.aload_n 0, 1) := by decide +kernel
theorem dX0_oddsAt_54 : decode cX0_oddsAt 54 = .ok (.getfield 18, 3) := by decide +kernel
theorem dX0_oddsAt_57 : decode cX0_oddsAt 57 = .ok (.getfield 65, 3) := by decide +kernel
theorem dX0_oddsAt_60 : decode cX0_oddsAt 60 = .ok (.iload_n 1, 1) := by decide +kernel
theorem dX0_oddsAt_61 : decode cX0_oddsAt 61 = .ok (.invokevirtual 69, 3) := by decide +kernel
theorem dX0_oddsAt_64 : decode cX0_oddsAt 64 = .ok (.ifCond .eq 6, 3) := by decide +kernel
theorem dX0_oddsAt_67 : decode cX0_oddsAt 67 = .ok (.iinc 4 1, 3) := by decide +kernel
theorem dX0_oddsAt_70 : decode cX0_oddsAt 70 = .ok (.iinc 5 1, 3) := by decide +kernel
theorem dX0_oddsAt_73 : decode cX0_oddsAt 73 = .ok (.goto (-30), 3) := by decide +kernel
theorem dX0_oddsAt_76 : decode cX0_oddsAt 76 = .ok (.iload 4, 2) := by decide +kernel
theorem dX0_oddsAt_78 : decode cX0_oddsAt 78 = .ok (.ireturn, 1) := by decide +kernel
theorem dX0_unfairness_0 : decode cX0_unfairness 0 = .ok (.aload_n 0, 1) := by decide +kernel
theorem dX0_unfairness_1 : decode cX0_unfairness 1 = .ok (.iload_n 1, 1) := by decide +kernel
theorem dX0_unfairness_2 : decode cX0_unfairness 2 = .ok (.invokevirtual 74, 3) := by decide +kernel
theorem dX0_unfairness_5 : decode cX0_unfairness 5 = .ok (.iconst 0, 1) := by decide +kernel
theorem dX0_unfairness_6 : decode cX0_unfairness 6 = .ok (.istore_n 2, 1) := by decide +kernel
theorem dX0_unfairness_7 : decode cX0_unfairness 7 = .ok (.iload_n 1, 1) := by decide +kernel
theorem dX0_unfairness_8 : decode cX0_unfairness 8 = .ok (.istore_n 3, 1) := by decide +kernel
theorem dX0_unfairness_9 : decode cX0_unfairness 9 = .ok (.iconst 0, 1) := by decide +kernel
theorem dX0_unfairness_10 : decode cX0_unfairness 10 = .ok (.istore 4, 2) := by decide +kernel
theorem dX0_unfairness_12 : decode cX0_unfairness 12 = .ok (.iload 4, 2) := by decide +kernel
theorem dX0_unfairness_14 : decode cX0_unfairness 14 = .ok (.bipush 12, 2) := by decide +kernel
theorem dX0_unfairness_16 : decode cX0_unfairness 16 = .ok (.if_icmp .ge 45, 3) := by decide +kernel
theorem dX0_unfairness_19 : decode cX0_unfairness 19 = .ok (.aload_n 0, 1) := by decide +kernel
theorem dX0_unfairness_20 : decode cX0_unfairness 20 = .ok (.getfield 12, 3) := by decide +kernel
theorem dX0_unfairness_23 : decode cX0_unfairness 23 = .ok (.iload 4, 2) := by decide +kernel
theorem dX0_unfairness_25 : decode cX0_unfairness 25 = .ok (.invokevirtual 49, 3) := by decide +kernel
theorem dX0_unfairness_28 : decode cX0_unfairness 28 = .ok (.ifCond .eq 27, 3) := by decide +kernel
theorem dX0_unfairness_31 : decode cX0_unfairness 31 = .ok (.iload_n 2, 1) := by decide +kernel
theorem dX0_unfairness_32 : decode cX0_unfairness 32 = .ok (.aload_n 0, 1) := by decide +kernel
theorem dX0_unfairness_33 : decode cX0_unfairness 33 = .ok (.getfield 21, 3) := by decide +kernel
theorem dX0_unfairness_36 : decode cX0_unfairness 36 = .ok (.iload 4, 2) := by decide +kernel
theorem dX0_unfairness_38 : decode cX0_unfairness 38 = .ok (.iaload, 1) := by decide +kernel
theorem dX0_unfairness_39 : decode cX0_unfairness 39 = .ok (.invokestatic 78, 3) := by decide +kernel
theorem dX0_unfairness_42 : decode cX0_unfairness 42 = .ok (.istore_n 2, 1) := by decide +kernel
theorem dX0_unfairness_43 : decode cX0_unfairness 43 = .ok (.iload_n 3, 1) := by decide +kernel
theorem dX0_unfairness_44 : decode cX0_unfairness 44 = .ok (.aload_n 0, 1) := by decide +kernel
theorem dX0_unfairness_45 : decode cX0_unfairness 45 = .ok (.getfield 21, 3) := by decide +kernel
theorem dX0_unfairness_48 : decode cX0_unfairness 48 = .ok (.iload 4, 2) := by decide +kernel
theorem dX0_unfairness_50 : decode cX0_unfairness 50 = .ok (.iaload, 1) := by decide +kernel
theorem dX0_unfairness_51 : decode cX0_unfairness 51 = .ok (.invokestatic 84, 3) := by decide +kernel
theorem dX0_unfairness_54 : decode cX0_unfairness 54 = .ok (.istore_n 3, 1) := by decide +kernel
theorem dX0_unfairness_55 : decode cX0_unfairness 55 = .ok (.iinc 4 1, 3) := by decide +kernel
theorem dX0_unfairness_58 : decode cX0_unfairness 58 = .ok (.goto (-46), 3) := by decide +kernel
theorem dX0_unfairness_61 : decode cX0_unfairness 61 = .ok (.iconst 0, 1) := by decide +kernel
theorem dX0_unfairness_62 : decode cX0_unfairness 62 = .ok (.iload_n 2, 1) := by decide +kernel
theorem dX0_unfairness_63 : decode cX0_unfairness 63 = .ok (.iload_n 3, 1) := by decide +kernel
theorem dX0_unfairness_64 : decode cX0_unfairness 64 = .ok (.isub, 1) := by decide +kernel
theorem dX0_unfairness_65 : decode cX0_unfairness 65 = .ok (.invokestatic 78, 3) := by decide +kernel
theorem dX0_unfairness_68 : decode cX0_unfairness 68 = .ok (.ireturn, 1) := by decide +kernel
theorem dX0_slowOfGreatestOdds_0 : decode cX0_slowOfGreatestOdds 0 = .ok (.bipush 10, 2) := by decide +kernel
theorem dX0_slowOfGreatestOdds_2 : decode cX0_slowOfGreatestOdds 2 = .ok (.istore_n 3, 1) := by decide +kernel
theorem dX0_slowOfGreatestOdds_3 : decode cX0_slowOfGreatestOdds 3 = .ok (.iconst (-1), 1) := by decide +kernel
theorem dX0_slowOfGreatestOdds_4 : decode cX0_slowOfGreatestOdds 4 = .ok (.istore 4, 2) := by decide +kernel
theorem dX0_slowOfGreatestOdds_6 : decode cX0_slowOfGreatestOdds 6 = .ok (.bipush 10, 2) := by decide +kernel
theorem dX0_slowOfGreatestOdds_8 : decode cX0_slowOfGreatestOdds 8 = .ok (.istore 5, 2) := by decide +kernel
theorem dX0_slowOfGreatestOdds_10 : decode cX0_slowOfGreatestOdds 10 = .ok (.iload 5, 2) := by decide +kernel
theorem dX0_slowOfGreatestOdds_12 : decode cX0_slowOfGreatestOdds 12 = .ok (.bipush 90, 2) := by decide +kernel
theorem dX0_slowOfGreatestOdds_14 : decode cX0_slowOfGreatestOdds 14 = .ok (.if_icmp .gt 33, 3) := by decide +kernel
theorem dX0_slowOfGreatestOdds_17 : decode cX0_slowOfGreatestOdds 17 = .ok (.aload_n 0, 1) := by decide +kernel
theorem dX0_slowOfGreatestOdds_18 : decode cX0_slowOfGreatestOdds 18 = .ok (.iload_n 1, 1) := by decide +kernel
theorem dX0_slowOfGreatestOdds_19 : decode cX0_slowOfGreatestOdds 19 = .ok (.iload_n 2, 1) := by decide +kernel
theorem dX0_slowOfGreatestOdds_20 : decode cX0_slowOfGreatestOdds 20 = .ok (.iload 5, 2) := by decide +kernel
theorem dX0_slowOfGreatestOdds_22 : decode cX0_slowOfGreatestOdds 22 = .ok (.invokevirtual 87, 3) := by decide +kernel
theorem dX0_slowOfGreatestOdds_25 : decode cX0_slowOfGreatestOdds 25 = .ok (.istore 6, 2) := by decide +kernel
theorem dX0_slowOfGreatestOdds_27 : decode cX0_slowOfGreatestOdds 27 = .ok (.iload 6, 2) := by decide +kernel
theorem dX0_slowOfGreatestOdds_29 : decode cX0_slowOfGreatestOdds 29 = .ok (.iload 4, 2) := by decide +kernel
theorem dX0_slowOfGreatestOdds_31 : decode cX0_slowOfGreatestOdds 31 = .ok (.if_icmp .le 10, 3) := by decide +kernel
theorem dX0_slowOfGreatestOdds_34 : decode cX0_slowOfGreatestOdds 34 = .ok (.iload 6, 2) := by decide +kernel
theorem dX0_slowOfGreatestOdds_36 : decode cX0_slowOfGreatestOdds 36 = .ok (.istore 4, 2) := by decide +kernel
theorem dX0_slowOfGreatestOdds_38 : decode cX0_slowOfGreatestOdds 38 = .ok (.iload 5, 2) := by decide +kernel
theorem dX0_slowOfGreatestOdds_40 : decode cX0_slowOfGreatestOdds 40 = .ok (.istore_n 3, 1) := by decide +kernel
theorem dX0_slowOfGreatestOdds_41 : decode cX0_slowOfGreatestOdds 41 = .ok (.iinc 5 10, 3) := by decide +kernel
theorem dX0_slowOfGreatestOdds_44 : decode cX0_slowOfGreatestOdds 44 = .ok (.goto (-34), 3) := by decide +kernel
theorem dX0_slowOfGreatestOdds_47 : decode cX0_slowOfGreatestOdds 47 = .ok (.iload_n 3, 1) := by decide +kernel
theorem dX0_slowOfGreatestOdds_48 : decode cX0_slowOfGreatestOdds 48 = .ok (.ireturn, 1) := by decide +kernel
theorem dX0_gainOfCheating_0 : decode cX0_gainOfCheating 0 = .ok (.aload_n 0, 1) := by decide +kernel
theorem dX0_gainOfCheating_1 : decode cX0_gainOfCheating 1 = .ok (.getfield 12, 3) := by decide +kernel
theorem dX0_gainOfCheating_4 : decode cX0_gainOfCheating 4 = .ok (.iload_n 1, 1) := by decide +kernel
theorem dX0_gainOfCheating_5 : decode cX0_gainOfCheating 5 = .ok (.invokevirtual 49, 3) := by decide +kernel
theorem dX0_gainOfCheating_8 : decode cX0_gainOfCheating 8 = .ok (.ifCond .ne 5, 3) := by decide +kernel
theorem dX0_gainOfCheating_11 : decode cX0_gainOfCheating 11 = .ok (.iconst 0, 1) := by decide +kernel
theorem dX0_gainOfCheating_12 : decode cX0_gainOfCheating 12 = .ok (.ireturn, 1) := by decide +kernel
theorem dX0_gainOfCheating_13 : decode cX0_gainOfCheating 13 = .ok (.aload_n 0, 1) := by decide +kernel
theorem dX0_gainOfCheating_14 : decode cX0_gainOfCheating 14 = .ok (.iload_n 1, 1) := by decide +kernel
theorem dX0_gainOfCheating_15 : decode cX0_gainOfCheating 15 = .ok (.iload_n 2, 1) := by decide +kernel
theorem dX0_gainOfCheating_16 : decode cX0_gainOfCheating 16 = .ok (.aload_n 0, 1) := by decide +kernel
theorem dX0_gainOfCheating_17 : decode cX0_gainOfCheating 17 = .ok (.getfield 12, 3) := by decide +kernel
theorem dX0_gainOfCheating_20 : decode cX0_gainOfCheating 20 = .ok (.getfield 53, 3) := by decide +kernel
theorem dX0_gainOfCheating_23 : decode cX0_gainOfCheating 23 = .ok (.iload_n 1, 1) := by decide +kernel
theorem dX0_gainOfCheating_24 : decode cX0_gainOfCheating 24 = .ok (.aaload, 1) := by decide +kernel
theorem dX0_gainOfCheating_25 : decode cX0_gainOfCheating 25 = .ok (.getfield 57, 3) := by decide +kernel
theorem dX0_gainOfCheating_28 : decode cX0_gainOfCheating 28 = .ok (.invokevirtual 87, 3) := by decide +kernel
theorem dX0_gainOfCheating_31 : decode cX0_gainOfCheating 31 = .ok (.istore_n 3, 1) := by decide +kernel
theorem dX0_gainOfCheating_32 : decode cX0_gainOfCheating 32 = .ok (.iconst 1, 1) := by decide +kernel
theorem dX0_gainOfCheating_33 : decode cX0_gainOfCheating 33 = .ok (.istore 4, 2) := by decide +kernel
theorem dX0_gainOfCheating_35 : decode cX0_gainOfCheating 35 = .ok (.iload 4, 2) := by decide +kernel
theorem dX0_gainOfCheating_37 : decode cX0_gainOfCheating 37 = .ok (.bipush 91, 2) := by decide +kernel
theorem dX0_gainOfCheating_39 : decode cX0_gainOfCheating 39 = .ok (.if_icmp .gt 35, 3) := by decide +kernel
theorem dX0_gainOfCheating_42 : decode cX0_gainOfCheating 42 = .ok (.iload_n 3, 1) := by decide +kernel
theorem dX0_gainOfCheating_43 : decode cX0_gainOfCheating 43 = .ok (.iload_n 2, 1) := by decide +kernel
theorem dX0_gainOfCheating_44 : decode cX0_gainOfCheating 44 = .ok (.if_icmp .ge 30, 3) := by decide +kernel
theorem dX0_gainOfCheating_47 : decode cX0_gainOfCheating 47 = .ok (.aload_n 0, 1) := by decide +kernel
theorem dX0_gainOfCheating_48 : decode cX0_gainOfCheating 48 = .ok (.iload_n 1, 1) := by decide +kernel
theorem dX0_gainOfCheating_49 : decode cX0_gainOfCheating 49 = .ok (.iload_n 2, 1) := by decide +kernel
theorem dX0_gainOfCheating_50 : decode cX0_gainOfCheating 50 = .ok (.iload 4, 2) := by decide +kernel
theorem dX0_gainOfCheating_52 : decode cX0_gainOfCheating 52 = .ok (.invokevirtual 87, 3) := by decide +kernel
theorem dX0_gainOfCheating_55 : decode cX0_gainOfCheating 55 = .ok (.istore 5, 2) := by decide +kernel
theorem dX0_gainOfCheating_57 : decode cX0_gainOfCheating 57 = .ok (.iload 5, 2) := by decide +kernel
theorem dX0_gainOfCheating_59 : decode cX0_gainOfCheating 59 = .ok (.iload_n 3, 1) := by decide +kernel
theorem dX0_gainOfCheating_60 : decode cX0_gainOfCheating 60 = .ok (.if_icmp .le 8, 3) := by decide +kernel
theorem dX0_gainOfCheating_63 : decode cX0_gainOfCheating 63 = .ok (.iload 5, 2) := by decide +kernel
theorem dX0_gainOfCheating_65 : decode cX0_gainOfCheating 65 = .ok (.iload_n 3, 1) := by decide +kernel
theorem dX0_gainOfCheating_66 : decode cX0_gainOfCheating 66 = .ok (.isub, 1) := by decide +kernel
theorem dX0_gainOfCheating_67 : decode cX0_gainOfCheating 67 = .ok (.ireturn, 1) := by decide +kernel
theorem dX0_gainOfCheating_68 : decode cX0_gainOfCheating 68 = .ok (.iinc 4 10, 3) := by decide +kernel
theorem dX0_gainOfCheating_71 : decode cX0_gainOfCheating 71 = .ok (.goto (-36), 3) := by decide +kernel
theorem dX0_gainOfCheating_74 : decode cX0_gainOfCheating 74 = .ok (.iconst 0, 1) := by decide +kernel
theorem dX0_gainOfCheating_75 : decode cX0_gainOfCheating 75 = .ok (.ireturn, 1) := by decide +kernel
theorem dX0_partyAhead_0 : decode cX0_partyAhead 0 = .ok (.aload_n 0, 1) := by decide +kernel
theorem dX0_partyAhead_1 : decode cX0_partyAhead 1 = .ok (.getfield 18, 3) := by decide +kernel
theorem dX0_partyAhead_4 : decode cX0_partyAhead 4 = .ok (.aload_n 0, 1) := by decide +kernel
theorem dX0_partyAhead_5 : decode cX0_partyAhead 5 = .ok (.getfield 12, 3) := by decide +kernel
theorem dX0_partyAhead_8 : decode cX0_partyAhead 8 = .ok (.invokevirtual 38, 3) := by decide +kernel
theorem dX0_partyAhead_11 : decode cX0_partyAhead 11 = .ok (.aload_n 0, 1) := by decide +kernel
theorem dX0_partyAhead_12 : decode cX0_partyAhead 12 = .ok (.invokevirtual 91, 3) := by decide +kernel
theorem dX0_partyAhead_15 : decode cX0_partyAhead 15 = .ok (.iload_n 1, 1) := by decide +kernel
theorem dX0_partyAhead_16 : decode cX0_partyAhead 16 = .ok (.ifCond .ne 8, 3) := by decide +kernel
theorem dX0_partyAhead_19 : decode cX0_partyAhead 19 = .ok (.aload_n 0, 1) := by decide +kernel
theorem dX0_partyAhead_20 : decode cX0_partyAhead 20 = .ok (.getfield 25, 3) := by decide +kernel
theorem dX0_partyAhead_23 : decode cX0_partyAhead 23 = .ok (.ireturn, 1) := by decide +kernel
theorem dX0_partyAhead_24 : decode cX0_partyAhead 24 = .ok (.iload_n 1, 1) := by decide +kernel
theorem dX0_partyAhead_25 : decode cX0_partyAhead 25 = .ok (.iconst 1, 1) := by decide +kernel
theorem dX0_partyAhead_26 : decode cX0_partyAhead 26 = .ok (.if_icmp .ne 10, 3) := by decide +kernel
theorem dX0_partyAhead_29 : decode cX0_partyAhead 29 = .ok (.aload_n 0, 1) := by decide +kernel
theorem dX0_partyAhead_30 : decode cX0_partyAhead 30 = .ok (.getfield 29, 3) := by decide +kernel
theorem dX0_partyAhead_33 : decode cX0_partyAhead 33 = .ok (.goto 10, 3) := by decide +kernel
theorem dX0_partyAhead_36 : decode cX0_partyAhead 36 = .ok (.aload_n 0, 1) := by decide +kernel
theorem dX0_partyAhead_37 : decode cX0_partyAhead 37 = .ok (.getfield 18, 3) := by decide +kernel
theorem dX0_partyAhead_40 : decode cX0_partyAhead 40 = .ok (.invokevirtual 94, 3) := by decide +kernel
theorem dX0_partyAhead_43 : decode cX0_partyAhead 43 = .ok (.ireturn, 1) := by decide +kernel
theorem dX0_timesWinner_0 : decode cX0_timesWinner 0 = .ok (.iconst 0, 1) := by decide +kernel
theorem dX0_timesWinner_1 : decode cX0_timesWinner 1 = .ok (.istore 4, 2) := by decide +kernel
theorem dX0_timesWinner_3 : decode cX0_timesWinner 3 = .ok (.iconst 0, 1) := by decide +kernel
theorem dX0_timesWinner_4 : decode cX0_timesWinner 4 = .ok (.istore 5, 2) := by decide +kernel
theorem dX0_timesWinner_6 : decode cX0_timesWinner 6 = .ok (.iload 5, 2) := by decide +kernel
theorem dX0_timesWinner_8 : decode cX0_timesWinner 8 = .ok (.iload_n 2, 1) := by decide +kernel
theorem dX0_timesWinner_9 : decode cX0_timesWinner 9 = .ok (.if_icmp .ge 52, 3) := by decide +kernel
theorem dX0_timesWinner_12 : decode cX0_timesWinner 12 = .ok (.aload_n 0, 1) := by decide +kernel
theorem dX0_timesWinner_13 : decode cX0_timesWinner 13 = .ok (.getfield 18, 3) := by decide +kernel
theorem dX0_timesWinner_16 : decode cX0_timesWinner 16 = .ok (.aload_n 0, 1) := by decide +kernel
theorem dX0_timesWinner_17 : decode cX0_timesWinner 17 = .ok (.getfield 12, 3) := by decide +kernel
theorem dX0_timesWinner_20 : decode cX0_timesWinner 20 = .ok (.invokevirtual 38, 3) := by decide +kernel
theorem dX0_timesWinner_23 : decode cX0_timesWinner 23 = .ok (.aload_n 0, 1) := by decide +kernel
theorem dX0_timesWinner_24 : decode cX0_timesWinner 24 = .ok (.getfield 18, 3) := by decide +kernel
theorem dX0_timesWinner_27 : decode cX0_timesWinner 27 = .ok (.getfield 97, 3) := by decide +kernel
theorem dX0_timesWinner_30 : decode cX0_timesWinner 30 = .ok (.iload_n 3, 1) := by decide +kernel
theorem dX0_timesWinner_31 : decode cX0_timesWinner 31 = .ok (.iload 5, 2) := by decide +kernel
theorem dX0_timesWinner_33 : decode cX0_timesWinner 33 = .ok (.iadd, 1) := by decide +kernel
theorem dX0_timesWinner_34 : decode cX0_timesWinner 34 = .ok (.putfield 101, 3) := by decide +kernel
theorem dX0_timesWinner_37 : decode cX0_timesWinner 37 = .ok (.aload_n 0, 1) := by decide +kernel
theorem dX0_timesWinner_38 : decode cX0_timesWinner 38 = .ok (.invokevirtual 91, 3) := by decide +kernel
theorem dX0_timesWinner_41 : decode cX0_timesWinner 41 = .ok (.aload_n 0, 1) := by decide +kernel
theorem dX0_timesWinner_42 : decode cX0_timesWinner 42 = .ok (.getfield 18, 3) := by decide +kernel
theorem dX0_timesWinner_45 : decode cX0_timesWinner 45 = .ok (.invokevirtual 94, 3) := by decide +kernel
theorem dX0_timesWinner_48 : decode cX0_timesWinner 48 = .ok (.iload_n 1, 1) := by decide +kernel
theorem dX0_timesWinner_49 : decode cX0_timesWinner 49 = .ok (.if_icmp .ne 6, 3) := by decide +kernel
theorem dX0_timesWinner_52 : decode cX0_timesWinner 52 = .ok (.iinc 4 1, 3) := by decide +kernel
theorem dX0_timesWinner_55 : decode cX0_timesWinner 55 = .ok (.iinc 5 1, 3) := by decide +kernel
theorem dX0_timesWinner_58 : decode cX0_timesWinner 58 = .ok (.goto (-52), 3) := by decide +kernel
theorem dX0_timesWinner_61 : decode cX0_timesWinner 61 = .ok (.iload 4, 2) := by decide +kernel
theorem dX0_timesWinner_63 : decode cX0_timesWinner 63 = .ok (.ireturn, 1) := by decide +kernel
theorem dX0_formOfMostWinners_0 : decode cX0_formOfMostWinners 0 = .ok (.iconst 0, 1) := by decide +kernel
theorem dX0_formOfMostWinners_1 : decode cX0_formOfMostWinners 1 = .ok (.istore_n 3, 1) := by decide +kernel
theorem dX0_formOfMostWinners_2 : decode cX0_formOfMostWinners 2 = .ok (.iconst (-1), 1) := by decide +kernel
theorem dX0_formOfMostWinners_3 : decode cX0_formOfMostWinners 3 = .ok (.istore 4, 2) := by decide +kernel
theorem dX0_formOfMostWinners_5 : decode cX0_formOfMostWinners 5 = .ok (.iconst 0, 1) := by decide +kernel
theorem dX0_formOfMostWinners_6 : decode cX0_formOfMostWinners 6 = .ok (.istore 5, 2) := by decide +kernel
theorem dX0_formOfMostWinners_8 : decode cX0_formOfMostWinners 8 = .ok (.iconst 0, 1) := by decide +kernel
theorem dX0_formOfMostWinners_9 : decode cX0_formOfMostWinners 9 = .ok (.istore 6, 2) := by decide +kernel
theorem dX0_formOfMostWinners_11 : decode cX0_formOfMostWinners 11 = .ok (.iload 6, 2) := by decide +kernel
theorem dX0_formOfMostWinners_13 : decode cX0_formOfMostWinners 13 = .ok (.iconst 3, 1) := by decide +kernel
theorem dX0_formOfMostWinners_14 : decode cX0_formOfMostWinners 14 = .ok (.if_icmp .ge 131, 3) := by decide +kernel
theorem dX0_formOfMostWinners_17 : decode cX0_formOfMostWinners 17 = .ok (.iconst 0, 1) := by decide +kernel
theorem dX0_formOfMostWinners_18 : decode cX0_formOfMostWinners 18 = .ok (.istore 7, 2) := by decide +kernel
theorem dX0_formOfMostWinners_20 : decode cX0_formOfMostWinners 20 = .ok (.iconst 0, 1) := by decide +kernel
theorem dX0_formOfMostWinners_21 : decode cX0_formOfMostWinners 21 = .ok (.istore 8, 2) := by decide +kernel
theorem dX0_formOfMostWinners_23 : decode cX0_formOfMostWinners 23 = .ok (.iconst 0, 1) := by decide +kernel
theorem dX0_formOfMostWinners_24 : decode cX0_formOfMostWinners 24 = .ok (.istore 9, 2) := by decide +kernel
theorem dX0_formOfMostWinners_26 : decode cX0_formOfMostWinners 26 = .ok (.iload 9, 2) := by decide +kernel
theorem dX0_formOfMostWinners_28 : decode cX0_formOfMostWinners 28 = .ok (.iload_n 1, 1) := by decide +kernel
theorem dX0_formOfMostWinners_29 : decode cX0_formOfMostWinners 29 = .ok (.if_icmp .ge 71, 3) := by decide +kernel
theorem dX0_formOfMostWinners_32 : decode cX0_formOfMostWinners 32 = .ok (.aload_n 0, 1) := by decide +kernel
theorem dX0_formOfMostWinners_33 : decode cX0_formOfMostWinners 33 = .ok (.getfield 18, 3) := by decide +kernel
theorem dX0_formOfMostWinners_36 : decode cX0_formOfMostWinners 36 = .ok (.aload_n 0, 1) := by decide +kernel
theorem dX0_formOfMostWinners_37 : decode cX0_formOfMostWinners 37 = .ok (.getfield 12, 3) := by decide +kernel
theorem dX0_formOfMostWinners_40 : decode cX0_formOfMostWinners 40 = .ok (.invokevirtual 38, 3) := by decide +kernel
theorem dX0_formOfMostWinners_43 : decode cX0_formOfMostWinners 43 = .ok (.aload_n 0, 1) := by decide +kernel
theorem dX0_formOfMostWinners_44 : decode cX0_formOfMostWinners 44 = .ok (.getfield 18, 3) := by decide +kernel
theorem dX0_formOfMostWinners_47 : decode cX0_formOfMostWinners 47 = .ok (.iload 6, 2) := by decide +kernel
theorem dX0_formOfMostWinners_49 : decode cX0_formOfMostWinners 49 = .ok (.putfield 106, 3) := by decide +kernel
theorem dX0_formOfMostWinners_52 : decode cX0_formOfMostWinners 52 = .ok (.aload_n 0, 1) := by decide +kernel
theorem dX0_formOfMostWinners_53 : decode cX0_formOfMostWinners 53 = .ok (.getfield 18, 3) := by decide +kernel
theorem dX0_formOfMostWinners_56 : decode cX0_formOfMostWinners 56 = .ok (.getfield 97, 3) := by decide +kernel
theorem dX0_formOfMostWinners_59 : decode cX0_formOfMostWinners 59 = .ok (.iload_n 2, 1) := by decide +kernel
theorem dX0_formOfMostWinners_60 : decode cX0_formOfMostWinners 60 = .ok (.iload 9, 2) := by decide +kernel
theorem dX0_formOfMostWinners_62 : decode cX0_formOfMostWinners 62 = .ok (.iadd, 1) := by decide +kernel
theorem dX0_formOfMostWinners_63 : decode cX0_formOfMostWinners 63 = .ok (.putfield 101, 3) := by decide +kernel
theorem dX0_formOfMostWinners_66 : decode cX0_formOfMostWinners 66 = .ok (.aload_n 0, 1) := by decide +kernel
theorem dX0_formOfMostWinners_67 : decode cX0_formOfMostWinners 67 = .ok (.invokevirtual 91, 3) := by decide +kernel
theorem dX0_formOfMostWinners_70 : decode cX0_formOfMostWinners 70 = .ok (.iload 7, 2) := by decide +kernel
theorem dX0_formOfMostWinners_72 : decode cX0_formOfMostWinners 72 = .ok (.aload_n 0, 1) := by decide +kernel
theorem dX0_formOfMostWinners_73 : decode cX0_formOfMostWinners 73 = .ok (.getfield 18, 3) := by decide +kernel
theorem dX0_formOfMostWinners_76 : decode cX0_formOfMostWinners 76 = .ok (.invokevirtual 94, 3) := by decide +kernel
theorem dX0_formOfMostWinners_79 : decode cX0_formOfMostWinners 79 = .ok (.invokestatic 109, 3) := by decide +kernel
theorem dX0_formOfMostWinners_82 : decode cX0_formOfMostWinners 82 = .ok (.ior, 1) := by decide +kernel
theorem dX0_formOfMostWinners_83 : decode cX0_formOfMostWinners 83 = .ok (.istore 7, 2) := by decide +kernel
theorem dX0_formOfMostWinners_85 : decode cX0_formOfMostWinners 85 = .ok (.iload 8, 2) := by decide +kernel
theorem dX0_formOfMostWinners_87 : decode cX0_formOfMostWinners 87 = .ok (.aload_n 0, 1) := by decide +kernel
theorem dX0_formOfMostWinners_88 : decode cX0_formOfMostWinners 88 = .ok (.getfield 25, 3) := by decide +kernel
theorem dX0_formOfMostWinners_91 : decode cX0_formOfMostWinners 91 = .ok (.iadd, 1) := by decide +kernel
theorem dX0_formOfMostWinners_92 : decode cX0_formOfMostWinners 92 = .ok (.istore 8, 2) := by decide +kernel
theorem dX0_formOfMostWinners_94 : decode cX0_formOfMostWinners 94 = .ok (.iinc 9 1, 3) := by decide +kernel
theorem dX0_formOfMostWinners_97 : decode cX0_formOfMostWinners 97 = .ok (.goto (-71), 3) := by decide +kernel
theorem dX0_formOfMostWinners_100 : decode cX0_formOfMostWinners 100 = .ok (.iload 7, 2) := by decide +kernel
theorem dX0_formOfMostWinners_102 : decode cX0_formOfMostWinners 102 = .ok (.invokestatic 113, 3) := by decide +kernel
theorem dX0_formOfMostWinners_105 : decode cX0_formOfMostWinners 105 = .ok (.istore 9, 2) := by decide +kernel
theorem dX0_formOfMostWinners_107 : decode cX0_formOfMostWinners 107 = .ok (.iload 9, 2) := by decide +kernel
theorem dX0_formOfMostWinners_109 : decode cX0_formOfMostWinners 109 = .ok (.iload 4, 2) := by decide +kernel
theorem dX0_formOfMostWinners_111 : decode cX0_formOfMostWinners 111 = .ok (.if_icmp .gt 17, 3) := by decide +kernel
theorem dX0_formOfMostWinners_114 : decode cX0_formOfMostWinners 114 = .ok (.iload 9, 2) := by decide +kernel
theorem dX0_formOfMostWinners_116 : decode cX0_formOfMostWinners 116 = .ok (.iload 4, 2) := by decide +kernel
theorem dX0_formOfMostWinners_118 : decode cX0_formOfMostWinners 118 = .ok (.if_icmp .ne 21, 3) := by decide +kernel
theorem dX0_formOfMostWinners_121 : decode cX0_formOfMostWinners 121 = .ok (.iload 8, 2) := by decide +kernel
theorem dX0_formOfMostWinners_123 : decode cX0_formOfMostWinners 123 = .ok (.iload 5, 2) := by decide +kernel
theorem dX0_formOfMostWinners_125 : decode cX0_formOfMostWinners 125 = .ok (.if_icmp .ge 14, 3) := by decide +kernel
theorem dX0_formOfMostWinners_128 : decode cX0_formOfMostWinners 128 = .ok (.iload 6, 2) := by decide +kernel
theorem dX0_formOfMostWinners_130 : decode cX0_formOfMostWinners 130 = .ok (.istore_n 3, 1) := by decide +kernel
theorem dX0_formOfMostWinners_131 : decode cX0_formOfMostWinners 131 = .ok (.iload 9, 2) := by decide +kernel
theorem dX0_formOfMostWinners_133 : decode cX0_formOfMostWinners 133 = .ok (.istore 4, 2) := by decide +kernel
theorem dX0_formOfMostWinners_135 : decode cX0_formOfMostWinners 135 = .ok (.iload 8, 2) := by decide +kernel
theorem dX0_formOfMostWinners_137 : decode cX0_formOfMostWinners 137 = .ok (.istore 5, 2) := by decide +kernel
theorem dX0_formOfMostWinners_139 : decode cX0_formOfMostWinners 139 = .ok (.iinc 6 1, 3) := by decide +kernel
theorem dX0_formOfMostWinners_142 : decode cX0_formOfMostWinners 142 = .ok (.goto (-131), 3) := by decide +kernel
theorem dX0_formOfMostWinners_145 : decode cX0_formOfMostWinners 145 = .ok (.iload_n 3, 1) := by decide +kernel
theorem dX0_formOfMostWinners_146 : decode cX0_formOfMostWinners 146 = .ok (.ireturn, 1) := by decide +kernel
theorem dX0_kindOfFewestTenths_0 : decode cX0_kindOfFewestTenths 0 = .ok (.iconst 0, 1) := by decide +kernel
theorem dX0_kindOfFewestTenths_1 : decode cX0_kindOfFewestTenths 1 = .ok (.istore_n 1, 1) := by decide +kernel
theorem dX0_kindOfFewestTenths_2 : decode cX0_kindOfFewestTenths 2 = .ok (.ldc 118, 2) := by decide +kernel
theorem dX0_kindOfFewestTenths_4 : decode cX0_kindOfFewestTenths 4 = .ok (.istore_n 2, 1) := by decide +kernel
theorem dX0_kindOfFewestTenths_5 : decode cX0_kindOfFewestTenths 5 = .ok (.iconst 0, 1) := by decide +kernel
theorem dX0_kindOfFewestTenths_6 : decode cX0_kindOfFewestTenths 6 = .ok (.istore_n 3, 1) := by decide +kernel
theorem dX0_kindOfFewestTenths_7 : decode cX0_kindOfFewestTenths 7 = .ok (.iload_n 3, 1) := by decide +kernel
theorem dX0_kindOfFewestTenths_8 : decode cX0_kindOfFewestTenths 8 = .ok (.iconst 5, 1) := by decide +kernel
theorem dX0_kindOfFewestTenths_9 : decode cX0_kindOfFewestTenths 9 = .ok (.if_icmp .ge 50, 3) := by decide +kernel
theorem dX0_kindOfFewestTenths_12 : decode cX0_kindOfFewestTenths 12 = .ok (.aload_n 0, 1) := by decide +kernel
theorem dX0_kindOfFewestTenths_13 : decode cX0_kindOfFewestTenths 13 = .ok (.getfield 18, 3) := by decide +kernel
theorem dX0_kindOfFewestTenths_16 : decode cX0_kindOfFewestTenths 16 = .ok (.aload_n 0, 1) := by decide +kernel
theorem dX0_kindOfFewestTenths_17 : decode cX0_kindOfFewestTenths 17 = .ok (.getfield 12, 3) := by decide +kernel
theorem dX0_kindOfFewestTenths_20 : decode cX0_kindOfFewestTenths 20 = .ok (.invokevirtual 38, 3) := by decide +kernel
theorem dX0_kindOfFewestTenths_23 : decode cX0_kindOfFewestTenths 23 = .ok (.aload_n 0, 1) := by decide +kernel
theorem dX0_kindOfFewestTenths_24 : decode cX0_kindOfFewestTenths 24 = .ok (.getfield 18, 3) := by decide +kernel
theorem dX0_kindOfFewestTenths_27 : decode cX0_kindOfFewestTenths 27 = .ok (.getfield 97, 3) := by decide +kernel
theorem dX0_kindOfFewestTenths_30 : decode cX0_kindOfFewestTenths 30 = .ok (.iload_n 3, 1) := by decide +kernel
theorem dX0_kindOfFewestTenths_31 : decode cX0_kindOfFewestTenths 31 = .ok (.putfield 119, 3) := by decide +kernel
theorem dX0_kindOfFewestTenths_34 : decode cX0_kindOfFewestTenths 34 = .ok (.aload_n 0, 1) := by decide +kernel
theorem dX0_kindOfFewestTenths_35 : decode cX0_kindOfFewestTenths 35 = .ok (.invokevirtual 91, 3) := by decide +kernel
theorem dX0_kindOfFewestTenths_38 : decode cX0_kindOfFewestTenths 38 = .ok (.aload_n 0, 1) := by decide +kernel
theorem dX0_kindOfFewestTenths_39 : decode cX0_kindOfFewestTenths 39 = .ok (.getfield 25, 3) := by decide +kernel
theorem dX0_kindOfFewestTenths_42 : decode cX0_kindOfFewestTenths 42 = .ok (.iload_n 2, 1) := by decide +kernel
theorem dX0_kindOfFewestTenths_43 : decode cX0_kindOfFewestTenths 43 = .ok (.if_icmp .ge 10, 3) := by decide +kernel
theorem dX0_kindOfFewestTenths_46 : decode cX0_kindOfFewestTenths 46 = .ok (.aload_n 0, 1) := by decide +kernel
theorem dX0_kindOfFewestTenths_47 : decode cX0_kindOfFewestTenths 47 = .ok (.getfield 25, 3) := by decide +kernel
theorem dX0_kindOfFewestTenths_50 : decode cX0_kindOfFewestTenths 50 = .ok (.istore_n 2, 1) := by decide +kernel
theorem dX0_kindOfFewestTenths_51 : decode cX0_kindOfFewestTenths 51 = .ok (.iload_n 3, 1) := by decide +kernel
theorem dX0_kindOfFewestTenths_52 : decode cX0_kindOfFewestTenths 52 = .ok (.istore_n 1, 1) := by decide +kernel
theorem dX0_kindOfFewestTenths_53 : decode cX0_kindOfFewestTenths 53 = .ok (.iinc 3 1, 3) := by decide +kernel
theorem dX0_kindOfFewestTenths_56 : decode cX0_kindOfFewestTenths 56 = .ok (.goto (-49), 3) := by decide +kernel
theorem dX0_kindOfFewestTenths_59 : decode cX0_kindOfFewestTenths 59 = .ok (.iload_n 1, 1) := by decide +kernel
theorem dX0_kindOfFewestTenths_60 : decode cX0_kindOfFewestTenths 60 = .ok (.ireturn, 1) := by decide +kernel
theorem dX0_teamGain_0 : decode cX0_teamGain 0 = .ok (.aload_n 0, 1) := by decide +kernel
theorem dX0_teamGain_1 : decode cX0_teamGain 1 = .ok (.getfield 18, 3) := by decide +kernel
theorem dX0_teamGain_4 : decode cX0_teamGain 4 = .ok (.aload_n 0, 1) := by decide +kernel
theorem dX0_teamGain_5 : decode cX0_teamGain 5 = .ok (.getfield 12, 3) := by decide +kernel
theorem dX0_teamGain_8 : decode cX0_teamGain 8 = .ok (.invokevirtual 38, 3) := by decide +kernel
theorem dX0_teamGain_11 : decode cX0_teamGain 11 = .ok (.iconst 0, 1) := by decide +kernel
theorem dX0_teamGain_12 : decode cX0_teamGain 12 = .ok (.istore 4, 2) := by decide +kernel
theorem dX0_teamGain_14 : decode cX0_teamGain 14 = .ok (.iconst 0, 1) := by decide +kernel
theorem dX0_teamGain_15 : decode cX0_teamGain 15 = .ok (.istore 5, 2) := by decide +kernel
theorem dX0_teamGain_17 : decode cX0_teamGain 17 = .ok (.iconst 0, 1) := by decide +kernel
theorem dX0_teamGain_18 : decode cX0_teamGain 18 = .ok (.istore 6, 2) := by decide +kernel
theorem dX0_teamGain_20 : decode cX0_teamGain 20 = .ok (.iconst 0, 1) := by decide +kernel
theorem dX0_teamGain_21 : decode cX0_teamGain 21 = .ok (.istore 7, 2) := by decide +kernel
theorem dX0_teamGain_23 : decode cX0_teamGain 23 = .ok (.iload 7, 2) := by decide +kernel
theorem dX0_teamGain_25 : decode cX0_teamGain 25 = .ok (.iload_n 3, 1) := by decide +kernel
theorem dX0_teamGain_26 : decode cX0_teamGain 26 = .ok (.if_icmp .ge 89, 3) := by decide +kernel
theorem dX0_teamGain_29 : decode cX0_teamGain 29 = .ok (.aload_n 0, 1) := by decide +kernel
theorem dX0_teamGain_30 : decode cX0_teamGain 30 = .ok (.invokevirtual 62, 3) := by decide +kernel
theorem dX0_teamGain_33 : decode cX0_teamGain 33 = .ok (.aload_n 0, 1) := by decide +kernel
theorem dX0_teamGain_34 : decode cX0_teamGain 34 = .ok (.getfield 18, 3) := by decide +kernel
theorem dX0_teamGain_37 : decode cX0_teamGain 37 = .ok (.getfield 65, 3) := by decide +kernel
theorem dX0_teamGain_40 : decode cX0_teamGain 40 = .ok (.iload_n 1, 1) := by decide +kernel
theorem dX0_teamGain_41 : decode cX0_teamGain 41 = .ok (.invokevirtual 69, 3) := by decide +kernel
theorem dX0_teamGain_44 : decode cX0_teamGain 44 = .ok (.istore 8, 2) := by decide +kernel
theorem dX0_teamGain_46 : decode cX0_teamGain 46 = .ok (.aload_n 0, 1) := by decide +kernel
theorem dX0_teamGain_47 : decode cX0_teamGain 47 = .ok (.getfield 18, 3) := by decide +kernel
theorem dX0_teamGain_50 : decode cX0_teamGain 50 = .ok (.getfield 65, 3) := by decide +kernel
theorem dX0_teamGain_53 : decode cX0_teamGain 53 = .ok (.iload_n 2, 1) := by decide +kernel
theorem dX0_teamGain_54 : decode cX0_teamGain 54 = .ok (.invokevirtual 69, 3) := by decide +kernel
theorem dX0_teamGain_57 : decode cX0_teamGain 57 = .ok (.istore 9, 2) := by decide +kernel
theorem dX0_teamGain_59 : decode cX0_teamGain 59 = .ok (.iload 4, 2) := by decide +kernel
theorem dX0_teamGain_61 : decode cX0_teamGain 61 = .ok (.iload 8, 2) := by decide +kernel
theorem dX0_teamGain_63 : decode cX0_teamGain 63 = .ok (.ifCond .eq 7, 3) := by decide +kernel
theorem dX0_teamGain_66 : decode cX0_teamGain 66 = .ok (.iconst 1, 1) := by decide +kernel
theorem dX0_teamGain_67 : decode cX0_teamGain 67 = .ok (.goto 4, 3) := by decide +kernel
theorem dX0_teamGain_70 : decode cX0_teamGain 70 = .ok (.iconst 0, 1) := by decide +kernel
theorem dX0_teamGain_71 : decode cX0_teamGain 71 = .ok (.iadd, 1) := by decide +kernel
theorem dX0_teamGain_72 : decode cX0_teamGain 72 = .ok (.istore 4, 2) := by decide +kernel
theorem dX0_teamGain_74 : decode cX0_teamGain 74 = .ok (.iload 5, 2) := by decide +kernel
theorem dX0_teamGain_76 : decode cX0_teamGain 76 = .ok (.iload 9, 2) := by decide +kernel
theorem dX0_teamGain_78 : decode cX0_teamGain 78 = .ok (.ifCond .eq 7, 3) := by decide +kernel
theorem dX0_teamGain_81 : decode cX0_teamGain 81 = .ok (.iconst 1, 1) := by decide +kernel
theorem dX0_teamGain_82 : decode cX0_teamGain 82 = .ok (.goto 4, 3) := by decide +kernel
theorem dX0_teamGain_85 : decode cX0_teamGain 85 = .ok (.iconst 0, 1) := by decide +kernel
theorem dX0_teamGain_86 : decode cX0_teamGain 86 = .ok (.iadd, 1) := by decide +kernel
theorem dX0_teamGain_87 : decode cX0_teamGain 87 = .ok (.istore 5, 2) := by decide +kernel
theorem dX0_teamGain_89 : decode cX0_teamGain 89 = .ok (.iload 6, 2) := by decide +kernel
theorem dX0_teamGain_91 : decode cX0_teamGain 91 = .ok (.iload 8, 2) := by decide +kernel
theorem dX0_teamGain_93 : decode cX0_teamGain 93 = .ok (.ifCond .ne 8, 3) := by decide +kernel
theorem dX0_teamGain_96 : decode cX0_teamGain 96 = .ok (.iload 9, 2) := by decide +kernel
theorem dX0_teamGain_98 : decode cX0_teamGain 98 = .ok (.ifCond .eq 7, 3) := by decide +kernel
theorem dX0_teamGain_101 : decode cX0_teamGain 101 = .ok (.iconst 1, 1) := by decide +kernel
theorem dX0_teamGain_102 : decode cX0_teamGain 102 = .ok (.goto 4, 3) := by decide +kernel
theorem dX0_teamGain_105 : decode cX0_teamGain 105 = .ok (.iconst 0, 1) := by decide +kernel
theorem dX0_teamGain_106 : decode cX0_teamGain 106 = .ok (.iadd, 1) := by decide +kernel
theorem dX0_teamGain_107 : decode cX0_teamGain 107 = .ok (.istore 6, 2) := by decide +kernel
theorem dX0_teamGain_109 : decode cX0_teamGain 109 = .ok (.iinc 7 1, 3) := by decide +kernel
theorem dX0_teamGain_112 : decode cX0_teamGain 112 = .ok (.goto (-89), 3) := by decide +kernel
theorem dX0_teamGain_115 : decode cX0_teamGain 115 = .ok (.iload 6, 2) := by decide +kernel
theorem dX0_teamGain_117 : decode cX0_teamGain 117 = .ok (.iload 4, 2) := by decide +kernel
theorem dX0_teamGain_119 : decode cX0_teamGain 119 = .ok (.iload 5, 2) := by decide +kernel
theorem dX0_teamGain_121 : decode cX0_teamGain 121 = .ok (.invokestatic 78, 3) := by decide +kernel
theorem dX0_teamGain_124 : decode cX0_teamGain 124 = .ok (.isub, 1) := by decide +kernel
theorem dX0_teamGain_125 : decode cX0_teamGain 125 = .ok (.ireturn, 1) := by decide +kernel
theorem dX0_sitsWhenHeld_0 : decode cX0_sitsWhenHeld 0 = .ok (.aload_n 0, 1) := by decide +kernel
theorem dX0_sitsWhenHeld_1 : decode cX0_sitsWhenHeld 1 = .ok (.getfield 18, 3) := by decide +kernel
theorem dX0_sitsWhenHeld_4 : decode cX0_sitsWhenHeld 4 = .ok (.aload_n 0, 1) := by decide +kernel
theorem dX0_sitsWhenHeld_5 : decode cX0_sitsWhenHeld 5 = .ok (.getfield 12, 3) := by decide +kernel
theorem dX0_sitsWhenHeld_8 : decode cX0_sitsWhenHeld 8 = .ok (.invokevirtual 38, 3) := by decide +kernel
theorem dX0_sitsWhenHeld_11 : decode cX0_sitsWhenHeld 11 = .ok (.aload_n 0, 1) := by decide +kernel
theorem dX0_sitsWhenHeld_12 : decode cX0_sitsWhenHeld 12 = .ok (.getfield 18, 3) := by decide +kernel
theorem dX0_sitsWhenHeld_15 : decode cX0_sitsWhenHeld 15 = .ok (.iload_n 2, 1) := by decide +kernel
theorem dX0_sitsWhenHeld_16 : decode cX0_sitsWhenHeld 16 = .ok (.invokevirtual 49, 3) := by decide +kernel
theorem dX0_sitsWhenHeld_19 : decode cX0_sitsWhenHeld 19 = .ok (.ifCond .ne 5, 3) := by decide +kernel
theorem dX0_sitsWhenHeld_22 : decode cX0_sitsWhenHeld 22 = .ok (.iconst 0, 1) := by decide +kernel
theorem dX0_sitsWhenHeld_23 : decode cX0_sitsWhenHeld 23 = .ok (.ireturn, 1) := by decide +kernel
theorem dX0_sitsWhenHeld_24 : decode cX0_sitsWhenHeld 24 = .ok (.aload_n 0, 1) := by decide +kernel
theorem dX0_sitsWhenHeld_25 : decode cX0_sitsWhenHeld 25 = .ok (.getfield 18, 3) := by decide +kernel
theorem dX0_sitsWhenHeld_28 : decode cX0_sitsWhenHeld 28 = .ok (.getfield 53, 3) := by decide +kernel
theorem dX0_sitsWhenHeld_31 : decode cX0_sitsWhenHeld 31 = .ok (.iload_n 2, 1) := by decide +kernel
theorem dX0_sitsWhenHeld_32 : decode cX0_sitsWhenHeld 32 = .ok (.aaload, 1) := by decide +kernel
theorem dX0_sitsWhenHeld_33 : decode cX0_sitsWhenHeld 33 = .ok (.astore 4, 2) := by decide +kernel
theorem dX0_sitsWhenHeld_35 : decode cX0_sitsWhenHeld 35 = .ok (.iconst 0, 1) := by decide +kernel
theorem dX0_sitsWhenHeld_36 : decode cX0_sitsWhenHeld 36 = .ok (.istore 5, 2) := by decide +kernel
theorem dX0_sitsWhenHeld_38 : decode cX0_sitsWhenHeld 38 = .ok (.iconst 0, 1) := by decide +kernel
theorem dX0_sitsWhenHeld_39 : decode cX0_sitsWhenHeld 39 = .ok (.istore 6, 2) := by decide +kernel
theorem dX0_sitsWhenHeld_41 : decode cX0_sitsWhenHeld 41 = .ok (.iload 6, 2) := by decide +kernel
theorem dX0_sitsWhenHeld_43 : decode cX0_sitsWhenHeld 43 = .ok (.iload_n 3, 1) := by decide +kernel
theorem dX0_sitsWhenHeld_44 : decode cX0_sitsWhenHeld 44 = .ok (.if_icmp .ge 92, 3) := by decide +kernel
theorem dX0_sitsWhenHeld_47 : decode cX0_sitsWhenHeld 47 = .ok (.aload_n 0, 1) := by decide +kernel
theorem dX0_sitsWhenHeld_48 : decode cX0_sitsWhenHeld 48 = .ok (.invokevirtual 62, 3) := by decide +kernel
theorem dX0_sitsWhenHeld_51 : decode cX0_sitsWhenHeld 51 = .ok (.aload_n 0, 1) := by decide +kernel
theorem dX0_sitsWhenHeld_52 : decode cX0_sitsWhenHeld 52 = .ok (.getfield 18, 3) := by decide +kernel
theorem dX0_sitsWhenHeld_55 : decode cX0_sitsWhenHeld 55 = .ok (.getfield 65, 3) := by decide +kernel
theorem dX0_sitsWhenHeld_58 : decode cX0_sitsWhenHeld 58 = .ok (.iload_n 1, 1) := by decide +kernel
theorem dX0_sitsWhenHeld_59 : decode cX0_sitsWhenHeld 59 = .ok (.aload_n 0, 1) := by decide +kernel
theorem dX0_sitsWhenHeld_60 : decode cX0_sitsWhenHeld 60 = .ok (.getfield 18, 3) := by decide +kernel
theorem dX0_sitsWhenHeld_63 : decode cX0_sitsWhenHeld 63 = .ok (.getfield 122, 3) := by decide +kernel
theorem dX0_sitsWhenHeld_66 : decode cX0_sitsWhenHeld 66 = .ok (.invokevirtual 126, 3) := by decide +kernel
theorem dX0_sitsWhenHeld_69 : decode cX0_sitsWhenHeld 69 = .ok (.istore 7, 2) := by decide +kernel
theorem dX0_sitsWhenHeld_71 : decode cX0_sitsWhenHeld 71 = .ok (.iload 7, 2) := by decide +kernel
theorem dX0_sitsWhenHeld_73 : decode cX0_sitsWhenHeld 73 = .ok (.ifCond .lt 32, 3) := by decide +kernel
theorem dX0_sitsWhenHeld_76 : decode cX0_sitsWhenHeld 76 = .ok (.aload_n 0, 1) := by decide +kernel
theorem dX0_sitsWhenHeld_77 : decode cX0_sitsWhenHeld 77 = .ok (.getfield 18, 3) := by decide +kernel
theorem dX0_sitsWhenHeld_80 : decode cX0_sitsWhenHeld 80 = .ok (.getfield 122, 3) := by decide +kernel
theorem dX0_sitsWhenHeld_83 : decode cX0_sitsWhenHeld 83 = .ok (.aload 4, 2) := by decide +kernel
theorem dX0_sitsWhenHeld_85 : decode cX0_sitsWhenHeld 85 = .ok (.getfield 130, 3) := by decide +kernel
theorem dX0_sitsWhenHeld_88 : decode cX0_sitsWhenHeld 88 = .ok (.iload 7, 2) := by decide +kernel
theorem dX0_sitsWhenHeld_90 : decode cX0_sitsWhenHeld 90 = .ok (.invokevirtual 133, 3) := by decide +kernel
theorem dX0_sitsWhenHeld_93 : decode cX0_sitsWhenHeld 93 = .ok (.aload 4, 2) := by decide +kernel
theorem dX0_sitsWhenHeld_95 : decode cX0_sitsWhenHeld 95 = .ok (.getfield 138, 3) := by decide +kernel
theorem dX0_sitsWhenHeld_98 : decode cX0_sitsWhenHeld 98 = .ok (.if_icmp .gt 7, 3) := by decide +kernel
theorem dX0_sitsWhenHeld_101 : decode cX0_sitsWhenHeld 101 = .ok (.iconst 1, 1) := by decide +kernel
theorem dX0_sitsWhenHeld_102 : decode cX0_sitsWhenHeld 102 = .ok (.goto 4, 3) := by decide +kernel
theorem dX0_sitsWhenHeld_105 : decode cX0_sitsWhenHeld 105 = .ok (.iconst 0, 1) := by decide +kernel
theorem dX0_sitsWhenHeld_106 : decode cX0_sitsWhenHeld 106 = .ok (.istore 8, 2) := by decide +kernel
theorem dX0_sitsWhenHeld_108 : decode cX0_sitsWhenHeld 108 = .ok (.iload 8, 2) := by decide +kernel
theorem dX0_sitsWhenHeld_110 : decode cX0_sitsWhenHeld 110 = .ok (.ifCond .ne 17, 3) := by decide +kernel
theorem dX0_sitsWhenHeld_113 : decode cX0_sitsWhenHeld 113 = .ok (.aload_n 0, 1) := by decide +kernel
theorem dX0_sitsWhenHeld_114 : decode cX0_sitsWhenHeld 114 = .ok (.getfield 18, 3) := by decide +kernel
theorem dX0_sitsWhenHeld_117 : decode cX0_sitsWhenHeld 117 = .ok (.getfield 65, 3) := by decide +kernel
theorem dX0_sitsWhenHeld_120 : decode cX0_sitsWhenHeld 120 = .ok (.iload_n 2, 1) := by decide +kernel
theorem dX0_sitsWhenHeld_121 : decode cX0_sitsWhenHeld 121 = .ok (.invokevirtual 69, 3) := by decide +kernel
theorem dX0_sitsWhenHeld_124 : decode cX0_sitsWhenHeld 124 = .ok (.ifCond .eq 6, 3) := by decide +kernel
theorem dX0_sitsWhenHeld_127 : decode cX0_sitsWhenHeld 127 = .ok (.iinc 5 1, 3) := by decide +kernel
theorem dX0_sitsWhenHeld_130 : decode cX0_sitsWhenHeld 130 = .ok (.iinc 6 1, 3) := by decide +kernel
theorem dX0_sitsWhenHeld_133 : decode cX0_sitsWhenHeld 133 = .ok (.goto (-92), 3) := by decide +kernel
theorem dX0_sitsWhenHeld_136 : decode cX0_sitsWhenHeld 136 = .ok (.iload 5, 2) := by decide +kernel
theorem dX0_sitsWhenHeld_138 : decode cX0_sitsWhenHeld 138 = .ok (.ireturn, 1) := by decide +kernel
theorem dX0_firstWrong_0 : decode cX0_firstWrong 0 = .ok (.aload_n 0, 1) := by decide +kernel
theorem dX0_firstWrong_1 : decode cX0_firstWrong 1 = .ok (.getfield 18, 3) := by decide +kernel
theorem dX0_firstWrong_4 : decode cX0_firstWrong 4 = .ok (.aload_n 0, 1) := by decide +kernel
theorem dX0_firstWrong_5 : decode cX0_firstWrong 5 = .ok (.getfield 12, 3) := by decide +kernel
theorem dX0_firstWrong_8 : decode cX0_firstWrong 8 = .ok (.invokevirtual 38, 3) := by decide +kernel
theorem dX0_firstWrong_11 : decode cX0_firstWrong 11 = .ok (.aload_n 0, 1) := by decide +kernel
theorem dX0_firstWrong_12 : decode cX0_firstWrong 12 = .ok (.getfield 18, 3) := by decide +kernel
theorem dX0_firstWrong_15 : decode cX0_firstWrong 15 = .ok (.iload_n 1, 1) := by decide +kernel
theorem dX0_firstWrong_16 : decode cX0_firstWrong 16 = .ok (.invokevirtual 49, 3) := by decide +kernel
theorem dX0_firstWrong_19 : decode cX0_firstWrong 19 = .ok (.ifCond .ne 6, 3) := by decide +kernel
theorem dX0_firstWrong_22 : decode cX0_firstWrong 22 = .ok (.bipush (-9), 2) := by decide +kernel
theorem dX0_firstWrong_24 : decode cX0_firstWrong 24 = .ok (.ireturn, 1) := by decide +kernel
theorem dX0_firstWrong_25 : decode cX0_firstWrong 25 = .ok (.iconst 0, 1) := by decide +kernel
theorem dX0_firstWrong_26 : decode cX0_firstWrong 26 = .ok (.istore_n 3, 1) := by decide +kernel
theorem dX0_firstWrong_27 : decode cX0_firstWrong 27 = .ok (.iload_n 3, 1) := by decide +kernel
theorem dX0_firstWrong_28 : decode cX0_firstWrong 28 = .ok (.aload_n 2, 1) := by decide +kernel
theorem dX0_firstWrong_29 : decode cX0_firstWrong 29 = .ok (.getfield 141, 3) := by decide +kernel
theorem dX0_firstWrong_32 : decode cX0_firstWrong 32 = .ok (.if_icmp .ge 38, 3) := by decide +kernel
theorem dX0_firstWrong_35 : decode cX0_firstWrong 35 = .ok (.aload_n 0, 1) := by decide +kernel
theorem dX0_firstWrong_36 : decode cX0_firstWrong 36 = .ok (.getfield 18, 3) := by decide +kernel
theorem dX0_firstWrong_39 : decode cX0_firstWrong 39 = .ok (.invokevirtual 146, 3) := by decide +kernel
theorem dX0_firstWrong_42 : decode cX0_firstWrong 42 = .ok (.aload_n 0, 1) := by decide +kernel
theorem dX0_firstWrong_43 : decode cX0_firstWrong 43 = .ok (.getfield 18, 3) := by decide +kernel
theorem dX0_firstWrong_46 : decode cX0_firstWrong 46 = .ok (.getfield 53, 3) := by decide +kernel
theorem dX0_firstWrong_49 : decode cX0_firstWrong 49 = .ok (.iload_n 1, 1) := by decide +kernel
theorem dX0_firstWrong_50 : decode cX0_firstWrong 50 = .ok (.aaload, 1) := by decide +kernel
theorem dX0_firstWrong_51 : decode cX0_firstWrong 51 = .ok (.getfield 130, 3) := by decide +kernel
theorem dX0_firstWrong_54 : decode cX0_firstWrong 54 = .ok (.aload_n 2, 1) := by decide +kernel
theorem dX0_firstWrong_55 : decode cX0_firstWrong 55 = .ok (.iload_n 3, 1) := by decide +kernel
theorem dX0_firstWrong_56 : decode cX0_firstWrong 56 = .ok (.invokevirtual 149, 3) := by decide +kernel
theorem dX0_firstWrong_59 : decode cX0_firstWrong 59 = .ok (.if_icmp .eq 5, 3) := by decide +kernel
theorem dX0_firstWrong_62 : decode cX0_firstWrong 62 = .ok (.iload_n 3, 1) := by decide +kernel
theorem dX0_firstWrong_63 : decode cX0_firstWrong 63 = .ok (.ireturn, 1) := by decide +kernel
theorem dX0_firstWrong_64 : decode cX0_firstWrong 64 = .ok (.iinc 3 1, 3) := by decide +kernel
theorem dX0_firstWrong_67 : decode cX0_firstWrong 67 = .ok (.goto (-40), 3) := by decide +kernel
theorem dX0_firstWrong_70 : decode cX0_firstWrong 70 = .ok (.bipush (-9), 2) := by decide +kernel
theorem dX0_firstWrong_72 : decode cX0_firstWrong 72 = .ok (.ireturn, 1) := by decide +kernel
theorem dX0_seatBehindTenth_0 : decode cX0_seatBehindTenth 0 = .ok (.aload_n 0, 1) := by decide +kernel
theorem dX0_seatBehindTenth_1 : decode cX0_seatBehindTenth 1 = .ok (.getfield 18, 3) := by decide +kernel
theorem dX0_seatBehindTenth_4 : decode cX0_seatBehindTenth 4 = .ok (.invokevirtual 146, 3) := by decide +kernel
theorem dX0_seatBehindTenth_7 : decode cX0_seatBehindTenth 7 = .ok (.aload_n 0, 1) := by decide +kernel
theorem dX0_seatBehindTenth_8 : decode cX0_seatBehindTenth 8 = .ok (.getfield 18, 3) := by decide +kernel
theorem dX0_seatBehindTenth_11 : decode cX0_seatBehindTenth 11 = .ok (.getfield 65, 3) := by decide +kernel
theorem dX0_seatBehindTenth_14 : decode cX0_seatBehindTenth 14 = .ok (.aload_n 0, 1) := by decide +kernel
theorem dX0_seatBehindTenth_15 : decode cX0_seatBehindTenth 15 = .ok (.getfield 18, 3) := by decide +kernel
theorem dX0_seatBehindTenth_18 : decode cX0_seatBehindTenth 18 = .ok (.invokevirtual 152, 3) := by decide +kernel
theorem dX0_seatBehindTenth_21 : decode cX0_seatBehindTenth 21 = .ok (.return_, 1) := by decide +kernel
theorem dX0_countSeatedTimes_0 : decode cX0_countSeatedTimes 0 = .ok (.aload_n 0, 1) := by decide +kernel
theorem dX0_countSeatedTimes_1 : decode cX0_countSeatedTimes 1 = .ok (.getfield 18, 3) := by decide +kernel
theorem dX0_countSeatedTimes_4 : decode cX0_countSeatedTimes 4 = .ok (.aload_n 0, 1) := by decide +kernel
theorem dX0_countSeatedTimes_5 : decode cX0_countSeatedTimes 5 = .ok (.getfield 12, 3) := by decide +kernel
theorem dX0_countSeatedTimes_8 : decode cX0_countSeatedTimes 8 = .ok (.invokevirtual 38, 3) := by decide +kernel
theorem dX0_countSeatedTimes_11 : decode cX0_countSeatedTimes 11 = .ok (.iconst 0, 1) := by decide +kernel
theorem dX0_countSeatedTimes_12 : decode cX0_countSeatedTimes 12 = .ok (.istore_n 2, 1) := by decide +kernel
theorem dX0_countSeatedTimes_13 : decode cX0_countSeatedTimes 13 = .ok (.iload_n 2, 1) := by decide +kernel
theorem dX0_countSeatedTimes_14 : decode cX0_countSeatedTimes 14 = .ok (.bipush 12, 2) := by decide +kernel
theorem dX0_countSeatedTimes_16 : decode cX0_countSeatedTimes 16 = .ok (.if_icmp .ge 16, 3) := by decide +kernel
theorem dX0_countSeatedTimes_19 : decode cX0_countSeatedTimes 19 = .ok (.aload_n 0, 1) := by decide +kernel
theorem dX0_countSeatedTimes_20 : decode cX0_countSeatedTimes 20 = .ok (.getfield 21, 3) := by decide +kernel
theorem dX0_countSeatedTimes_23 : decode cX0_countSeatedTimes 23 = .ok (.iload_n 2, 1) := by decide +kernel
theorem dX0_countSeatedTimes_24 : decode cX0_countSeatedTimes 24 = .ok (.iconst 0, 1) := by decide +kernel
theorem dX0_countSeatedTimes_25 : decode cX0_countSeatedTimes 25 = .ok (.iastore, 1) := by decide +kernel
theorem dX0_countSeatedTimes_26 : decode cX0_countSeatedTimes 26 = .ok (.iinc 2 1, 3) := by decide +kernel
theorem dX0_countSeatedTimes_29 : decode cX0_countSeatedTimes 29 = .ok (.goto (-16), 3) := by decide +kernel
theorem dX0_countSeatedTimes_32 : decode cX0_countSeatedTimes 32 = .ok (.iconst 0, 1) := by decide +kernel
theorem dX0_countSeatedTimes_33 : decode cX0_countSeatedTimes 33 = .ok (.istore_n 2, 1) := by decide +kernel
theorem dX0_countSeatedTimes_34 : decode cX0_countSeatedTimes 34 = .ok (.iload_n 2, 1) := by decide +kernel
theorem dX0_countSeatedTimes_35 : decode cX0_countSeatedTimes 35 = .ok (.iload_n 1, 1) := by decide +kernel
theorem dX0_countSeatedTimes_36 : decode cX0_countSeatedTimes 36 = .ok (.if_icmp .ge 55, 3) := by decide +kernel
theorem dX0_countSeatedTimes_39 : decode cX0_countSeatedTimes 39 = .ok (.aload_n 0, 1) := by decide +kernel
theorem dX0_countSeatedTimes_40 : decode cX0_countSeatedTimes 40 = .ok (.invokevirtual 62, 3) := by decide +kernel
theorem dX0_countSeatedTimes_43 : decode cX0_countSeatedTimes 43 = .ok (.iconst 0, 1) := by decide +kernel
theorem dX0_countSeatedTimes_44 : decode cX0_countSeatedTimes 44 = .ok (.istore_n 3, 1) := by decide +kernel
theorem dX0_countSeatedTimes_45 : decode cX0_countSeatedTimes 45 = .ok (.iload_n 3, 1) := by decide +kernel
theorem dX0_countSeatedTimes_46 : decode cX0_countSeatedTimes 46 = .ok (.bipush 12, 2) := by decide +kernel
theorem dX0_countSeatedTimes_48 : decode cX0_countSeatedTimes 48 = .ok (.if_icmp .ge 37, 3) := by decide +kernel
theorem dX0_countSeatedTimes_51 : decode cX0_countSeatedTimes 51 = .ok (.aload_n 0, 1) := by decide +kernel
theorem dX0_countSeatedTimes_52 : decode cX0_countSeatedTimes 52 = .ok (.getfield 21, 3) := by decide +kernel
theorem dX0_countSeatedTimes_55 : decode cX0_countSeatedTimes 55 = .ok (.iload_n 3, 1) := by decide +kernel
theorem dX0_countSeatedTimes_56 : decode cX0_countSeatedTimes 56 = .ok (.dup2, 1) := by decide +kernel
theorem dX0_countSeatedTimes_57 : decode cX0_countSeatedTimes 57 = .ok (.iaload, 1) := by decide +kernel
theorem dX0_countSeatedTimes_58 : decode cX0_countSeatedTimes 58 = .ok (.aload_n 0, 1) := by decide +kernel
theorem dX0_countSeatedTimes_59 : decode cX0_countSeatedTimes 59 = .ok (.getfield 18, 3) := by decide +kernel
theorem dX0_countSeatedTimes_62 : decode cX0_countSeatedTimes 62 = .ok (.getfield 65, 3) := by decide +kernel
theorem dX0_countSeatedTimes_65 : decode cX0_countSeatedTimes 65 = .ok (.iload_n 3, 1) := by decide +kernel
theorem dX0_countSeatedTimes_66 : decode cX0_countSeatedTimes 66 = .ok (.invokevirtual 69, 3) := by decide +kernel
theorem dX0_countSeatedTimes_69 : decode cX0_countSeatedTimes 69 = .ok (.ifCond .eq 7, 3) := by decide +kernel
theorem dX0_countSeatedTimes_72 : decode cX0_countSeatedTimes 72 = .ok (.iconst 1, 1) := by decide +kernel
theorem dX0_countSeatedTimes_73 : decode cX0_countSeatedTimes 73 = .ok (.goto 4, 3) := by decide +kernel
theorem dX0_countSeatedTimes_76 : decode cX0_countSeatedTimes 76 = .ok (.iconst 0, 1) := by decide +kernel
theorem dX0_countSeatedTimes_77 : decode cX0_countSeatedTimes 77 = .ok (.iadd, 1) := by decide +kernel
theorem dX0_countSeatedTimes_78 : decode cX0_countSeatedTimes 78 = .ok (.iastore, 1) := by decide +kernel
theorem dX0_countSeatedTimes_79 : decode cX0_countSeatedTimes 79 = .ok (.iinc 3 1, 3) := by decide +kernel
theorem dX0_countSeatedTimes_82 : decode cX0_countSeatedTimes 82 = .ok (.goto (-37), 3) := by decide +kernel
theorem dX0_countSeatedTimes_85 : decode cX0_countSeatedTimes 85 = .ok (.iinc 2 1, 3) := by decide +kernel
theorem dX0_countSeatedTimes_88 : decode cX0_countSeatedTimes 88 = .ok (.goto (-54), 3) := by decide +kernel
theorem dX0_countSeatedTimes_91 : decode cX0_countSeatedTimes 91 = .ok (.return_, 1) := by decide +kernel
theorem dX0_playOut_0 : decode cX0_playOut 0 = .ok (.aload_n 0, 1) := by decide +kernel
theorem dX0_playOut_1 : decode cX0_playOut 1 = .ok (.iconst 0, 1) := by decide +kernel
theorem dX0_playOut_2 : decode cX0_playOut 2 = .ok (.putfield 25, 3) := by decide +kernel
theorem dX0_playOut_5 : decode cX0_playOut 5 = .ok (.aload_n 0, 1) := by decide +kernel
theorem dX0_playOut_6 : decode cX0_playOut 6 = .ok (.iconst 0, 1) := by decide +kernel
theorem dX0_playOut_7 : decode cX0_playOut 7 = .ok (.putfield 29, 3) := by decide +kernel
theorem dX0_playOut_10 : decode cX0_playOut 10 = .ok (.iconst 0, 1) := by decide +kernel
theorem dX0_playOut_11 : decode cX0_playOut 11 = .ok (.istore_n 1, 1) := by decide +kernel
theorem dX0_playOut_12 : decode cX0_playOut 12 = .ok (.iload_n 1, 1) := by decide +kernel
theorem dX0_playOut_13 : decode cX0_playOut 13 = .ok (.sipush 3900, 3) := by decide +kernel
theorem dX0_playOut_16 : decode cX0_playOut 16 = .ok (.if_icmp .ge 57, 3) := by decide +kernel
theorem dX0_playOut_19 : decode cX0_playOut 19 = .ok (.aload_n 0, 1) := by decide +kernel
theorem dX0_playOut_20 : decode cX0_playOut 20 = .ok (.getfield 18, 3) := by decide +kernel
theorem dX0_playOut_23 : decode cX0_playOut 23 = .ok (.getfield 155, 3) := by decide +kernel
theorem dX0_playOut_26 : decode cX0_playOut 26 = .ok (.ifCond .ne 47, 3) := by decide +kernel
theorem dX0_playOut_29 : decode cX0_playOut 29 = .ok (.aload_n 0, 1) := by decide +kernel
theorem dX0_playOut_30 : decode cX0_playOut 30 = .ok (.dup, 1) := by decide +kernel
theorem dX0_playOut_31 : decode cX0_playOut 31 = .ok (.getfield 25, 3) := by decide +kernel
theorem dX0_playOut_34 : decode cX0_playOut 34 = .ok (.iconst 1, 1) := by decide +kernel
theorem dX0_playOut_35 : decode cX0_playOut 35 = .ok (.iadd, 1) := by decide +kernel
theorem dX0_playOut_36 : decode cX0_playOut 36 = .ok (.putfield 25, 3) := by decide +kernel
theorem dX0_playOut_39 : decode cX0_playOut 39 = .ok (.aload_n 0, 1) := by decide +kernel
theorem dX0_playOut_40 : decode cX0_playOut 40 = .ok (.getfield 18, 3) := by decide +kernel
theorem dX0_playOut_43 : decode cX0_playOut 43 = .ok (.invokevirtual 159, 3) := by decide +kernel
theorem dX0_playOut_46 : decode cX0_playOut 46 = .ok (.ifCond .eq 21, 3) := by decide +kernel
theorem dX0_playOut_49 : decode cX0_playOut 49 = .ok (.aload_n 0, 1) := by decide +kernel
theorem dX0_playOut_50 : decode cX0_playOut 50 = .ok (.getfield 18, 3) := by decide +kernel
theorem dX0_playOut_53 : decode cX0_playOut 53 = .ok (.invokevirtual 163, 3) := by decide +kernel
theorem dX0_playOut_56 : decode cX0_playOut 56 = .ok (.pop, 1) := by decide +kernel
theorem dX0_playOut_57 : decode cX0_playOut 57 = .ok (.aload_n 0, 1) := by decide +kernel
theorem dX0_playOut_58 : decode cX0_playOut 58 = .ok (.dup, 1) := by decide +kernel
theorem dX0_playOut_59 : decode cX0_playOut 59 = .ok (.getfield 29, 3) := by decide +kernel
theorem dX0_playOut_62 : decode cX0_playOut 62 = .ok (.iconst 1, 1) := by decide +kernel
theorem dX0_playOut_63 : decode cX0_playOut 63 = .ok (.iadd, 1) := by decide +kernel
theorem dX0_playOut_64 : decode cX0_playOut 64 = .ok (.putfield 29, 3) := by decide +kernel
theorem dX0_playOut_67 : decode cX0_playOut 67 = .ok (.iinc 1 1, 3) := by decide +kernel
theorem dX0_playOut_70 : decode cX0_playOut 70 = .ok (.goto (-58), 3) := by decide +kernel
theorem dX0_playOut_73 : decode cX0_playOut 73 = .ok (.return_, 1) := by decide +kernel
theorem dX0_bitOf_0 : decode cX0_bitOf 0 = .ok (.iload_n 0, 1) := by decide +kernel
theorem dX0_bitOf_1 : decode cX0_bitOf 1 = .ok (.ifCond .lt 9, 3) := by decide +kernel
theorem dX0_bitOf_4 : decode cX0_bitOf 4 = .ok (.iconst 1, 1) := by decide +kernel
theorem dX0_bitOf_5 : decode cX0_bitOf 5 = .ok (.iload_n 0, 1) := by decide +kernel
theorem dX0_bitOf_6 : decode cX0_bitOf 6 = .ok (.ishl, 1) := by decide +kernel
theorem dX0_bitOf_7 : decode cX0_bitOf 7 = .ok (.goto 4, 3) := by decide +kernel
theorem dX0_bitOf_10 : decode cX0_bitOf 10 = .ok (.iconst 0, 1) := by decide +kernel
theorem dX0_bitOf_11 : decode cX0_bitOf 11 = .ok (.ireturn, 1) := by decide +kernel
theorem dX1_init_0 : decode cX1_init 0 = .ok (.aload_n 0, 1) := by decide +kernel
theorem dX1_init_1 : decode cX1_init 1 = .ok (.invokespecial 3, 3) := by decide +kernel
theorem dX1_init_4 : decode cX1_init 4 = .ok (.aload_n 0, 1) := by decide +kernel
theorem dX1_init_5 : decode cX1_init 5 = .ok (.iconst 0, 1) := by decide +kernel
theorem dX1_init_6 : decode cX1_init 6 = .ok (.putfield 9, 3) := by decide +kernel
theorem dX1_init_9 : decode cX1_init 9 = .ok (.aload_n 0, 1) := by decide +kernel
theorem dX1_init_10 : decode cX1_init 10 = .ok (.iload_n 1, 1) := by decide +kernel
theorem dX1_init_11 : decode cX1_init 11 = .ok (.ifCond .le 7, 3) := by decide +kernel
theorem dX1_init_14 : decode cX1_init 14 = .ok (.iload_n 1, 1) := by decide +kernel
theorem dX1_init_15 : decode cX1_init 15 = .ok (.goto 4, 3) := by decide +kernel
theorem dX1_init_18 : decode cX1_init 18 = .ok (.iconst 0, 1) := by decide +kernel
theorem dX1_init_19 : decode cX1_init 19 = .ok (.newarray .int, 2) := by decide +kernel
theorem dX1_init_21 : decode cX1_init 21 = .ok (.putfield 15, 3) := by decide +kernel
theorem dX1_init_24 : decode cX1_init 24 = .ok (.return_, 1) := by decide +kernel
theorem dX1_isFull_0 : decode cX1_isFull 0 = .ok (.aload_n 0, 1) := by decide +kernel
theorem dX1_isFull_1 : decode cX1_isFull 1 = .ok (.getfield 9, 3) := by decide +kernel
theorem dX1_isFull_4 : decode cX1_isFull 4 = .ok (.aload_n 0, 1) := by decide +kernel
theorem dX1_isFull_5 : decode cX1_isFull 5 = .ok (.getfield 15, 3) := by decide +kernel
theorem dX1_isFull_8 : decode cX1_isFull 8 = .ok (.arraylength, 1) := by decide +kernel
theorem dX1_isFull_9 : decode cX1_isFull 9 = .ok (.if_icmp .lt 7, 3) := by decide +kernel
theorem dX1_isFull_12 : decode cX1_isFull 12 = .ok (.iconst 1, 1) := by decide +kernel
theorem dX1_isFull_13 : decode cX1_isFull 13 = .ok (.goto 4, 3) := by decide +kernel
theorem dX1_isFull_16 : decode cX1_isFull 16 = .ok (.iconst 0, 1) := by decide +kernel
theorem dX1_isFull_17 : decode cX1_isFull 17 = .ok (.ireturn, 1) := by decide +kernel
theorem dX1_append_0 : decode cX1_append 0 = .ok (.aload_n 0, 1) := by decide +kernel
theorem dX1_append_1 : decode cX1_append 1 = .ok (.invokevirtual 19, 3) := by decide +kernel
theorem dX1_append_4 : decode cX1_append 4 = .ok (.ifCond .ne 23, 3) := by decide +kernel
theorem dX1_append_7 : decode cX1_append 7 = .ok (.aload_n 0, 1) := by decide +kernel
theorem dX1_append_8 : decode cX1_append 8 = .ok (.getfield 15, 3) := by decide +kernel
theorem dX1_append_11 : decode cX1_append 11 = .ok (.aload_n 0, 1) := by decide +kernel
theorem dX1_append_12 : decode cX1_append 12 = .ok (.getfield 9, 3) := by decide +kernel
theorem dX1_append_15 : decode cX1_append 15 = .ok (.iload_n 1, 1) := by decide +kernel
theorem dX1_append_16 : decode cX1_append 16 = .ok (.iastore, 1) := by decide +kernel
theorem dX1_append_17 : decode cX1_append 17 = .ok (.aload_n 0, 1) := by decide +kernel
theorem dX1_append_18 : decode cX1_append 18 = .ok (.dup, 1) := by decide +kernel
theorem dX1_append_19 : decode cX1_append 19 = .ok (.getfield 9, 3) := by decide +kernel
theorem dX1_append_22 : decode cX1_append 22 = .ok (.iconst 1, 1) := by decide +kernel
theorem dX1_append_23 : decode cX1_append 23 = .ok (.iadd, 1) := by decide +kernel
theorem dX1_append_24 : decode cX1_append 24 = .ok (.putfield 9, 3) := by decide +kernel
theorem dX1_append_27 : decode cX1_append 27 = .ok (.aload_n 0, 1) := by decide +kernel
theorem dX1_append_28 : decode cX1_append 28 = .ok (.getfield 9, 3) := by decide +kernel
theorem dX1_append_31 : decode cX1_append 31 = .ok (.ireturn, 1) := by decide +kernel
theorem dX1_at_0 : decode cX1_at 0 = .ok (.iload_n 1, 1) := by decide +kernel
theorem dX1_at_1 : decode cX1_at 1 = .ok (.ifCond .lt 20, 3) := by decide +kernel
theorem dX1_at_4 : decode cX1_at 4 = .ok (.iload_n 1, 1) := by decide +kernel
theorem dX1_at_5 : decode cX1_at 5 = .ok (.aload_n 0, 1) := by decide +kernel
theorem dX1_at_6 : decode cX1_at 6 = .ok (.getfield 9, 3) := by decide +kernel
theorem dX1_at_9 : decode cX1_at 9 = .ok (.if_icmp .ge 12, 3) := by decide +kernel
theorem dX1_at_12 : decode cX1_at 12 = .ok (.aload_n 0, 1) := by decide +kernel
theorem dX1_at_13 : decode cX1_at 13 = .ok (.getfield 15, 3) := by decide +kernel
theorem dX1_at_16 : decode cX1_at 16 = .ok (.iload_n 1, 1) := by decide +kernel
theorem dX1_at_17 : decode cX1_at 17 = .ok (.iaload, 1) := by decide +kernel
theorem dX1_at_18 : decode cX1_at 18 = .ok (.goto 5, 3) := by decide +kernel
theorem dX1_at_21 : decode cX1_at 21 = .ok (.bipush (-9), 2) := by decide +kernel
theorem dX1_at_23 : decode cX1_at 23 = .ok (.ireturn, 1) := by decide +kernel
theorem dX1_hundredthsUpTo_0 : decode cX1_hundredthsUpTo 0 = .ok (.iconst 0, 1) := by decide +kernel
theorem dX1_hundredthsUpTo_1 : decode cX1_hundredthsUpTo 1 = .ok (.istore_n 2, 1) := by decide +kernel
theorem dX1_hundredthsUpTo_2 : decode cX1_hundredthsUpTo 2 = .ok (.iconst 0, 1) := by decide +kernel
theorem dX1_hundredthsUpTo_3 : decode cX1_hundredthsUpTo 3 = .ok (.istore_n 3, 1) := by decide +kernel
theorem dX1_hundredthsUpTo_4 : decode cX1_hundredthsUpTo 4 = .ok (.iload_n 3, 1) := by decide +kernel
theorem dX1_hundredthsUpTo_5 : decode cX1_hundredthsUpTo 5 = .ok (.aload_n 0, 1) := by decide +kernel
theorem dX1_hundredthsUpTo_6 : decode cX1_hundredthsUpTo 6 = .ok (.getfield 9, 3) := by decide +kernel
theorem dX1_hundredthsUpTo_9 : decode cX1_hundredthsUpTo 9 = .ok (.if_icmp .ge 22, 3) := by decide +kernel
theorem dX1_hundredthsUpTo_12 : decode cX1_hundredthsUpTo 12 = .ok (.aload_n 0, 1) := by decide +kernel
theorem dX1_hundredthsUpTo_13 : decode cX1_hundredthsUpTo 13 = .ok (.getfield 15, 3) := by decide +kernel
theorem dX1_hundredthsUpTo_16 : decode cX1_hundredthsUpTo 16 = .ok (.iload_n 3, 1) := by decide +kernel
theorem dX1_hundredthsUpTo_17 : decode cX1_hundredthsUpTo 17 = .ok (.iaload, 1) := by decide +kernel
theorem dX1_hundredthsUpTo_18 : decode cX1_hundredthsUpTo 18 = .ok (.iload_n 1, 1) := by decide +kernel
theorem dX1_hundredthsUpTo_19 : decode cX1_hundredthsUpTo 19 = .ok (.if_icmp .gt 6, 3) := by decide +kernel
theorem dX1_hundredthsUpTo_22 : decode cX1_hundredthsUpTo 22 = .ok (.iinc 2 1, 3) := by decide +kernel
theorem dX1_hundredthsUpTo_25 : decode cX1_hundredthsUpTo 25 = .ok (.iinc 3 1, 3) := by decide +kernel
theorem dX1_hundredthsUpTo_28 : decode cX1_hundredthsUpTo 28 = .ok (.goto (-24), 3) := by decide +kernel
theorem dX1_hundredthsUpTo_31 : decode cX1_hundredthsUpTo 31 = .ok (.aload_n 0, 1) := by decide +kernel
theorem dX1_hundredthsUpTo_32 : decode cX1_hundredthsUpTo 32 = .ok (.getfield 9, 3) := by decide +kernel
theorem dX1_hundredthsUpTo_35 : decode cX1_hundredthsUpTo 35 = .ok (.ifCond .le 15, 3) := by decide +kernel
theorem dX1_hundredthsUpTo_38 : decode cX1_hundredthsUpTo 38 = .ok (.iload_n 2, 1) := by decide +kernel
theorem dX1_hundredthsUpTo_39 : decode cX1_hundredthsUpTo 39 = .ok (.bipush 100, 2) := by decide +kernel
theorem dX1_hundredthsUpTo_41 : decode cX1_hundredthsUpTo 41 = .ok (.imul, 1) := by decide +kernel
theorem dX1_hundredthsUpTo_42 : decode cX1_hundredthsUpTo 42 = .ok (.aload_n 0, 1) := by decide +kernel
theorem dX1_hundredthsUpTo_43 : decode cX1_hundredthsUpTo 43 = .ok (.getfield 9, 3) := by decide +kernel
theorem dX1_hundredthsUpTo_46 : decode cX1_hundredthsUpTo 46 = .ok (.idiv, 1) := by decide +kernel
theorem dX1_hundredthsUpTo_47 : decode cX1_hundredthsUpTo 47 = .ok (.goto 4, 3) := by decide +kernel
theorem dX1_hundredthsUpTo_50 : decode cX1_hundredthsUpTo 50 = .ok (.iconst 0, 1) := by decide +kernel
theorem dX1_hundredthsUpTo_51 : decode cX1_hundredthsUpTo 51 = .ok (.ireturn, 1) := by decide +kernel
theorem dX2_init_0 : decode cX2_init 0 = .ok (.aload_n 0, 1) := by decide +kernel
theorem dX2_init_1 : decode cX2_init 1 = .ok (.invokespecial 3, 3) := by decide +kernel
theorem dX2_init_4 : decode cX2_init 4 = .ok (.aload_n 0, 1) := by decide +kernel
theorem dX2_init_5 : decode cX2_init 5 = .ok (.new 9, 3) := by decide +kernel
theorem dX2_init_8 : decode cX2_init 8 = .ok (.dup, 1) := by decide +kernel
theorem dX2_init_9 : decode cX2_init 9 = .ok (.invokespecial 11, 3) := by decide +kernel
theorem dX2_init_12 : decode cX2_init 12 = .ok (.putfield 12, 3) := by decide +kernel
theorem dX2_init_15 : decode cX2_init 15 = .ok (.aload_n 0, 1) := by decide +kernel
theorem dX2_init_16 : decode cX2_init 16 = .ok (.new 18, 3) := by decide +kernel
theorem dX2_init_19 : decode cX2_init 19 = .ok (.dup, 1) := by decide +kernel
theorem dX2_init_20 : decode cX2_init 20 = .ok (.invokespecial 20, 3) := by decide +kernel
theorem dX2_init_23 : decode cX2_init 23 = .ok (.putfield 21, 3) := by decide +kernel
theorem dX2_init_26 : decode cX2_init 26 = .ok (.aload_n 0, 1) := by decide +kernel
theorem dX2_init_27 : decode cX2_init 27 = .ok (.new 25, 3) := by decide +kernel
theorem dX2_init_30 : decode cX2_init 30 = .ok (.dup, 1) := by decide +kernel
theorem dX2_init_31 : decode cX2_init 31 = .ok (.invokespecial 27, 3) := by decide +kernel
theorem dX2_init_34 : decode cX2_init 34 = .ok (.putfield 28, 3) := by decide +kernel
theorem dX2_init_37 : decode cX2_init 37 = .ok (.aload_n 0, 1) := by decide +kernel
theorem dX2_init_38 : decode cX2_init 38 = .ok (.bipush 12, 2) := by decide +kernel
theorem dX2_init_40 : decode cX2_init 40 = .ok (.anewarray 32, 3) := by decide +kernel
theorem dX2_init_43 : decode cX2_init 43 = .ok (.putfield 34, 3) := by decide +kernel
theorem dX2_init_46 : decode cX2_init 46 = .ok (.aload_n 0, 1) := by decide +kernel
theorem dX2_init_47 : decode cX2_init 47 = .ok (.bipush 60, 2) := by decide +kernel
theorem dX2_init_49 : decode cX2_init 49 = .ok (.newarray .boolean, 2) := by decide +kernel
theorem dX2_init_51 : decode cX2_init 51 = .ok (.putfield 38, 3) := by decide +kernel
theorem dX2_init_54 : decode cX2_init 54 = .ok (.aload_n 0, 1) := by decide +kernel
theorem dX2_init_55 : decode cX2_init 55 = .ok (.iconst 0, 1) := by decide +kernel
theorem dX2_init_56 : decode cX2_init 56 = .ok (.putfield 42, 3) := by decide +kernel
theorem dX2_init_59 : decode cX2_init 59 = .ok (.aload_n 0, 1) := by decide +kernel
theorem dX2_init_60 : decode cX2_init 60 = .ok (.iconst 0, 1) := by decide +kernel
theorem dX2_init_61 : decode cX2_init 61 = .ok (.putfield 46, 3) := by decide +kernel
theorem dX2_init_64 : decode cX2_init 64 = .ok (.aload_n 0, 1) := by decide +kernel
theorem dX2_init_65 : decode cX2_init 65 = .ok (.iconst 0, 1) := by decide +kernel
theorem dX2_init_66 : decode cX2_init 66 = .ok (.putfield 49, 3) := by decide +kernel
theorem dX2_init_69 : decode cX2_init 69 = .ok (.aload_n 0, 1) := by decide +kernel
theorem dX2_init_70 : decode cX2_init 70 = .ok (.iconst 0, 1) := by decide +kernel
theorem dX2_init_71 : decode cX2_init 71 = .ok (.putfield 52, 3) := by decide +kernel
theorem dX2_init_74 : decode cX2_init 74 = .ok (.aload_n 0, 1) := by decide +kernel
theorem dX2_init_75 : decode cX2_init 75 = .ok (.iconst 0, 1) := by decide +kernel
theorem dX2_init_76 : decode cX2_init 76 = .ok (.putfield 55, 3) := by decide +kernel
theorem dX2_init_79 : decode cX2_init 79 = .ok (.iconst 0, 1) := by decide +kernel
theorem dX2_init_80 : decode cX2_init 80 = .ok (.istore_n 1, 1) := by decide +kernel
theorem dX2_init_81 : decode cX2_init 81 = .ok (.iload_n 1, 1) := by decide +kernel
theorem dX2_init_82 : decode cX2_init 82 = .ok (.bipush 12, 2) := by decide +kernel
theorem dX2_init_84 : decode cX2_init 84 = .ok (.if_icmp .ge 22, 3) := by decide +kernel
theorem dX2_init_87 : decode cX2_init 87 = .ok (.aload_n 0, 1) := by decide +kernel
theorem dX2_init_88 : decode cX2_init 88 = .ok (.getfield 34, 3) := by decide +kernel
theorem dX2_init_91 : decode cX2_init 91 = .ok (.iload_n 1, 1) := by decide +kernel
theorem dX2_init_92 : decode cX2_init 92 = .ok (.new 32, 3) := by decide +kernel
theorem dX2_init_95 : decode cX2_init 95 = .ok (.dup, 1) := by decide +kernel
theorem dX2_init_96 : decode cX2_init 96 = .ok (.invokespecial 59, 3) := by decide +kernel
theorem dX2_init_99 : decode cX2_init 99 = .ok (.aastore, 1) := by decide +kernel
theorem dX2_init_100 : decode cX2_init 100 = .ok (.iinc 1 1, 3) := by decide +kernel
theorem dX2_init_103 : decode cX2_init 103 = .ok (.goto (-22), 3) := by decide +kernel
theorem dX2_init_106 : decode cX2_init 106 = .ok (.return_, 1) := by decide +kernel
theorem dX2_become_0 : decode cX2_become 0 = .ok (.aload_n 0, 1) := by decide +kernel
theorem dX2_become_1 : decode cX2_become 1 = .ok (.getfield 12, 3) := by decide +kernel
theorem dX2_become_4 : decode cX2_become 4 = .ok (.aload_n 1, 1) := by decide +kernel
theorem dX2_become_5 : decode cX2_become 5 = .ok (.getfield 12, 3) := by decide +kernel
theorem dX2_become_8 : decode cX2_become 8 = .ok (.invokevirtual 60, 3) := by decide +kernel
theorem dX2_become_11 : decode cX2_become 11 = .ok (.aload_n 0, 1) := by decide +kernel
theorem dX2_become_12 : decode cX2_become 12 = .ok (.getfield 21, 3) := by decide +kernel
theorem dX2_become_15 : decode cX2_become 15 = .ok (.aload_n 1, 1) := by decide +kernel
theorem dX2_become_16 : decode cX2_become 16 = .ok (.getfield 21, 3) := by decide +kernel
theorem dX2_become_19 : decode cX2_become 19 = .ok (.invokevirtual 64, 3) := by decide +kernel
theorem dX2_become_22 : decode cX2_become 22 = .ok (.aload_n 0, 1) := by decide +kernel
theorem dX2_become_23 : decode cX2_become 23 = .ok (.aload_n 1, 1) := by decide +kernel
theorem dX2_become_24 : decode cX2_become 24 = .ok (.getfield 42, 3) := by decide +kernel
theorem dX2_become_27 : decode cX2_become 27 = .ok (.putfield 42, 3) := by decide +kernel
theorem dX2_become_30 : decode cX2_become 30 = .ok (.iconst 0, 1) := by decide +kernel
theorem dX2_become_31 : decode cX2_become 31 = .ok (.istore_n 2, 1) := by decide +kernel
theorem dX2_become_32 : decode cX2_become 32 = .ok (.iload_n 2, 1) := by decide +kernel
theorem dX2_become_33 : decode cX2_become 33 = .ok (.aload_n 0, 1) := by decide +kernel
theorem dX2_become_34 : decode cX2_become 34 = .ok (.getfield 42, 3) := by decide +kernel
theorem dX2_become_37 : decode cX2_become 37 = .ok (.if_icmp .ge 30, 3) := by decide +kernel
theorem dX2_become_40 : decode cX2_become 40 = .ok (.iload_n 2, 1) := by decide +kernel
theorem dX2_become_41 : decode cX2_become 41 = .ok (.bipush 12, 2) := by decide +kernel
theorem dX2_become_43 : decode cX2_become 43 = .ok (.if_icmp .ge 24, 3) := by decide +kernel
theorem dX2_become_46 : decode cX2_become 46 = .ok (.aload_n 0, 1) := by decide +kernel
theorem dX2_become_47 : decode cX2_become 47 = .ok (.getfield 34, 3) := by decide +kernel
theorem dX2_become_50 : decode cX2_become 50 = .ok (.iload_n 2, 1) := by decide +kernel
theorem dX2_become_51 : decode cX2_become 51 = .ok (.aaload, 1) := by decide +kernel
theorem dX2_become_52 : decode cX2_become 52 = .ok (.aload_n 1, 1) := by decide +kernel
theorem dX2_become_53 : decode cX2_become 53 = .ok (.getfield 34, 3) := by decide +kernel
theorem dX2_become_56 : decode cX2_become 56 = .ok (.iload_n 2, 1) := by decide +kernel
theorem dX2_become_57 : decode cX2_become 57 = .ok (.aaload, 1) := by decide +kernel
theorem dX2_become_58 : decode cX2_become 58 = .ok (.invokevirtual 67, 3) := by decide +kernel
theorem dX2_become_61 : decode cX2_become 61 = .ok (.iinc 2 1, 3) := by decide +kernel
theorem dX2_become_64 : decode cX2_become 64 = .ok (.goto (-32), 3) := by decide +kernel
theorem dX2_become_67 : decode cX2_become 67 = .ok (.aload_n 1, 1) := by decide +kernel
theorem dX2_become_68 : decode cX2_become 68 = .ok (.getfield 38, 3) := by decide +kernel
theorem dX2_become_71 : decode cX2_become 71 = .ok (.iconst 0, 1) := by decide +kernel
theorem dX2_become_72 : decode cX2_become 72 = .ok (.aload_n 0, 1) := by decide +kernel
theorem dX2_become_73 : decode cX2_become 73 = .ok (.getfield 38, 3) := by decide +kernel
theorem dX2_become_76 : decode cX2_become 76 = .ok (.iconst 0, 1) := by decide +kernel
theorem dX2_become_77 : decode cX2_become 77 = .ok (.bipush 60, 2) := by decide +kernel
theorem dX2_become_79 : decode cX2_become 79 = .ok (.invokestatic 70, 3) := by decide +kernel
theorem dX2_become_82 : decode cX2_become 82 = .ok (.aload_n 0, 1) := by decide +kernel
theorem dX2_become_83 : decode cX2_become 83 = .ok (.aload_n 1, 1) := by decide +kernel
theorem dX2_become_84 : decode cX2_become 84 = .ok (.getfield 46, 3) := by decide +kernel
theorem dX2_become_87 : decode cX2_become 87 = .ok (.putfield 46, 3) := by decide +kernel
theorem dX2_become_90 : decode cX2_become 90 = .ok (.aload_n 0, 1) := by decide +kernel
theorem dX2_become_91 : decode cX2_become 91 = .ok (.aload_n 1, 1) := by decide +kernel
theorem dX2_become_92 : decode cX2_become 92 = .ok (.getfield 49, 3) := by decide +kernel
theorem dX2_become_95 : decode cX2_become 95 = .ok (.putfield 49, 3) := by decide +kernel
theorem dX2_become_98 : decode cX2_become 98 = .ok (.aload_n 0, 1) := by decide +kernel
theorem dX2_become_99 : decode cX2_become 99 = .ok (.aload_n 1, 1) := by decide +kernel
theorem dX2_become_100 : decode cX2_become 100 = .ok (.getfield 52, 3) := by decide +kernel
theorem dX2_become_103 : decode cX2_become 103 = .ok (.putfield 52, 3) := by decide +kernel
theorem dX2_become_106 : decode cX2_become 106 = .ok (.aload_n 0, 1) := by decide +kernel
theorem dX2_become_107 : decode cX2_become 107 = .ok (.aload_n 1, 1) := by decide +kernel
theorem dX2_become_108 : decode cX2_become 108 = .ok (.getfield 55, 3) := by decide +kernel
theorem dX2_become_111 : decode cX2_become 111 = .ok (.putfield 55, 3) := by decide +kernel
theorem dX2_become_114 : decode cX2_become 114 = .ok (.return_, 1) := by decide +kernel
theorem dX2_knows_0 : decode cX2_knows 0 = .ok (.iload_n 1, 1) := by decide +kernel
theorem dX2_knows_1 : decode cX2_knows 1 = .ok (.ifCond .lt 21, 3) := by decide +kernel
theorem dX2_knows_4 : decode cX2_knows 4 = .ok (.iload_n 1, 1) := by decide +kernel
theorem dX2_knows_5 : decode cX2_knows 5 = .ok (.aload_n 0, 1) := by decide +kernel
theorem dX2_knows_6 : decode cX2_knows 6 = .ok (.getfield 42, 3) := by decide +kernel
theorem dX2_knows_9 : decode cX2_knows 9 = .ok (.if_icmp .ge 13, 3) := by decide +kernel
theorem dX2_knows_12 : decode cX2_knows 12 = .ok (.iload_n 1, 1) := by decide +kernel
theorem dX2_knows_13 : decode cX2_knows 13 = .ok (.bipush 12, 2) := by decide +kernel
theorem dX2_knows_15 : decode cX2_knows 15 = .ok (.if_icmp .ge 7, 3) := by decide +kernel
theorem dX2_knows_18 : decode cX2_knows 18 = .ok (.iconst 1, 1) := by decide +kernel
theorem dX2_knows_19 : decode cX2_knows 19 = .ok (.goto 4, 3) := by decide +kernel
theorem dX2_knows_22 : decode cX2_knows 22 = .ok (.iconst 0, 1) := by decide +kernel
theorem dX2_knows_23 : decode cX2_knows 23 = .ok (.ireturn, 1) := by decide +kernel
theorem dX2_knowsIn_0 : decode cX2_knowsIn 0 = .ok (.iload_n 1, 1) := by decide +kernel
theorem dX2_knowsIn_1 : decode cX2_knowsIn 1 = .ok (.ifCond .lt 33, 3) := by decide +kernel
theorem dX2_knowsIn_4 : decode cX2_knowsIn 4 = .ok (.iload_n 1, 1) := by decide +kernel
theorem dX2_knowsIn_5 : decode cX2_knowsIn 5 = .ok (.aload_n 0, 1) := by decide +kernel
theorem dX2_knowsIn_6 : decode cX2_knowsIn 6 = .ok (.getfield 42, 3) := by decide +kernel
theorem dX2_knowsIn_9 : decode cX2_knowsIn 9 = .ok (.if_icmp .ge 25, 3) := by decide +kernel
theorem dX2_knowsIn_12 : decode cX2_knowsIn 12 = .ok (.iload_n 1, 1) := by decide +kernel
theorem dX2_knowsIn_13 : decode cX2_knowsIn 13 = .ok (.bipush 12, 2) := by decide +kernel
theorem dX2_knowsIn_15 : decode cX2_knowsIn 15 = .ok (.if_icmp .ge 19, 3) := by decide +kernel
theorem dX2_knowsIn_18 : decode cX2_knowsIn 18 = .ok (.aload_n 0, 1) := by decide +kernel
theorem dX2_knowsIn_19 : decode cX2_knowsIn 19 = .ok (.getfield 34, 3) := by decide +kernel
theorem dX2_knowsIn_22 : decode cX2_knowsIn 22 = .ok (.iload_n 1, 1) := by decide +kernel
theorem dX2_knowsIn_23 : decode cX2_knowsIn 23 = .ok (.aaload, 1) := by decide +kernel
theorem dX2_knowsIn_24 : decode cX2_knowsIn 24 = .ok (.getfield 76, 3) := by decide +kernel
theorem dX2_knowsIn_27 : decode cX2_knowsIn 27 = .ok (.ifCond .eq 7, 3) := by decide +kernel
theorem dX2_knowsIn_30 : decode cX2_knowsIn 30 = .ok (.iconst 1, 1) := by decide +kernel
theorem dX2_knowsIn_31 : decode cX2_knowsIn 31 = .ok (.goto 4, 3) := by decide +kernel
theorem dX2_knowsIn_34 : decode cX2_knowsIn 34 = .ok (.iconst 0, 1) := by decide +kernel
theorem dX2_knowsIn_35 : decode cX2_knowsIn 35 = .ok (.ireturn, 1) := by decide +kernel
theorem dX2_countIn_0 : decode cX2_countIn 0 = .ok (.iconst 0, 1) := by decide +kernel
theorem dX2_countIn_1 : decode cX2_countIn 1 = .ok (.istore_n 1, 1) := by decide +kernel
theorem dX2_countIn_2 : decode cX2_countIn 2 = .ok (.iconst 0, 1) := by decide +kernel
theorem dX2_countIn_3 : decode cX2_countIn 3 = .ok (.istore_n 2, 1) := by decide +kernel
theorem dX2_countIn_4 : decode cX2_countIn 4 = .ok (.iload_n 2, 1) := by decide +kernel
theorem dX2_countIn_5 : decode cX2_countIn 5 = .ok (.aload_n 0, 1) := by decide +kernel
theorem dX2_countIn_6 : decode cX2_countIn 6 = .ok (.getfield 42, 3) := by decide +kernel
theorem dX2_countIn_9 : decode cX2_countIn 9 = .ok (.if_icmp .ge 20, 3) := by decide +kernel
theorem dX2_countIn_12 : decode cX2_countIn 12 = .ok (.aload_n 0, 1) := by decide +kernel
theorem dX2_countIn_13 : decode cX2_countIn 13 = .ok (.iload_n 2, 1) := by decide +kernel
theorem dX2_countIn_14 : decode cX2_countIn 14 = .ok (.invokevirtual 79, 3) := by decide +kernel
theorem dX2_countIn_17 : decode cX2_countIn 17 = .ok (.ifCond .eq 6, 3) := by decide +kernel
theorem dX2_countIn_20 : decode cX2_countIn 20 = .ok (.iinc 1 1, 3) := by decide +kernel
theorem dX2_countIn_23 : decode cX2_countIn 23 = .ok (.iinc 2 1, 3) := by decide +kernel
theorem dX2_countIn_26 : decode cX2_countIn 26 = .ok (.goto (-22), 3) := by decide +kernel
theorem dX2_countIn_29 : decode cX2_countIn 29 = .ok (.iload_n 1, 1) := by decide +kernel
theorem dX2_countIn_30 : decode cX2_countIn 30 = .ok (.ireturn, 1) := by decide +kernel
theorem dX2_canGoOn_0 : decode cX2_canGoOn 0 = .ok (.aload_n 0, 1) := by decide +kernel
theorem dX2_canGoOn_1 : decode cX2_canGoOn 1 = .ok (.getfield 55, 3) := by decide +kernel
theorem dX2_canGoOn_4 : decode cX2_canGoOn 4 = .ok (.ifCond .ne 25, 3) := by decide +kernel
theorem dX2_canGoOn_7 : decode cX2_canGoOn 7 = .ok (.aload_n 0, 1) := by decide +kernel
theorem dX2_canGoOn_8 : decode cX2_canGoOn 8 = .ok (.invokevirtual 83, 3) := by decide +kernel
theorem dX2_canGoOn_11 : decode cX2_canGoOn 11 = .ok (.iconst 2, 1) := by decide +kernel
theorem dX2_canGoOn_12 : decode cX2_canGoOn 12 = .ok (.if_icmp .lt 17, 3) := by decide +kernel
theorem dX2_canGoOn_15 : decode cX2_canGoOn 15 = .ok (.aload_n 0, 1) := by decide +kernel
theorem dX2_canGoOn_16 : decode cX2_canGoOn 16 = .ok (.getfield 12, 3) := by decide +kernel
theorem dX2_canGoOn_19 : decode cX2_canGoOn 19 = .ok (.getfield 87, 3) := by decide +kernel
theorem dX2_canGoOn_22 : decode cX2_canGoOn 22 = .ok (.ifCond .le 7, 3) := by decide +kernel
theorem dX2_canGoOn_25 : decode cX2_canGoOn 25 = .ok (.iconst 1, 1) := by decide +kernel
theorem dX2_canGoOn_26 : decode cX2_canGoOn 26 = .ok (.goto 4, 3) := by decide +kernel
theorem dX2_canGoOn_29 : decode cX2_canGoOn 29 = .ok (.iconst 0, 1) := by decide +kernel
theorem dX2_canGoOn_30 : decode cX2_canGoOn 30 = .ok (.ireturn, 1) := by decide +kernel
theorem dX2_isStoodOn_0 : decode cX2_isStoodOn 0 = .ok (.iload_n 1, 1) := by decide +kernel
theorem dX2_isStoodOn_1 : decode cX2_isStoodOn 1 = .ok (.ifCond .lt 22, 3) := by decide +kernel
theorem dX2_isStoodOn_4 : decode cX2_isStoodOn 4 = .ok (.iload_n 1, 1) := by decide +kernel
theorem dX2_isStoodOn_5 : decode cX2_isStoodOn 5 = .ok (.bipush 60, 2) := by decide +kernel
theorem dX2_isStoodOn_7 : decode cX2_isStoodOn 7 = .ok (.if_icmp .ge 16, 3) := by decide +kernel
theorem dX2_isStoodOn_10 : decode cX2_isStoodOn 10 = .ok (.aload_n 0, 1) := by decide +kernel
theorem dX2_isStoodOn_11 : decode cX2_isStoodOn 11 = .ok (.getfield 38, 3) := by decide +kernel
theorem dX2_isStoodOn_14 : decode cX2_isStoodOn 14 = .ok (.iload_n 1, 1) := by decide +kernel
theorem dX2_isStoodOn_15 : decode cX2_isStoodOn 15 = .ok (.baload, 1) := by decide +kernel
theorem dX2_isStoodOn_16 : decode cX2_isStoodOn 16 = .ok (.ifCond .eq 7, 3) := by decide +kernel
theorem dX2_isStoodOn_19 : decode cX2_isStoodOn 19 = .ok (.iconst 1, 1) := by decide +kernel
theorem dX2_isStoodOn_20 : decode cX2_isStoodOn 20 = .ok (.goto 4, 3) := by decide +kernel
theorem dX2_isStoodOn_23 : decode cX2_isStoodOn 23 = .ok (.iconst 0, 1) := by decide +kernel
theorem dX2_isStoodOn_24 : decode cX2_isStoodOn 24 = .ok (.ireturn, 1) := by decide +kernel
theorem dX2_mark_0 : decode cX2_mark 0 = .ok (.iload_n 1, 1) := by decide +kernel
theorem dX2_mark_1 : decode cX2_mark 1 = .ok (.ifCond .lt 16, 3) := by decide +kernel
theorem dX2_mark_4 : decode cX2_mark 4 = .ok (.iload_n 1, 1) := by decide +kernel
theorem dX2_mark_5 : decode cX2_mark 5 = .ok (.bipush 60, 2) := by decide +kernel
theorem dX2_mark_7 : decode cX2_mark 7 = .ok (.if_icmp .ge 10, 3) := by decide +kernel
theorem dX2_mark_10 : decode cX2_mark 10 = .ok (.aload_n 0, 1) := by decide +kernel
theorem dX2_mark_11 : decode cX2_mark 11 = .ok (.getfield 38, 3) := by decide +kernel
theorem dX2_mark_14 : decode cX2_mark 14 = .ok (.iload_n 1, 1) := by decide +kernel
theorem dX2_mark_15 : decode cX2_mark 15 = .ok (.iload_n 2, 1) := by decide +kernel
theorem dX2_mark_16 : decode cX2_mark 16 = .ok (.bastore, 1) := by decide +kernel
theorem dX2_mark_17 : decode cX2_mark 17 = .ok (.return_, 1) := by decide +kernel
theorem dX2_whyNoChair_0 : decode cX2_whyNoChair 0 = .ok (.aload_n 0, 1) := by decide +kernel
theorem dX2_whyNoChair_1 : decode cX2_whyNoChair 1 = .ok (.getfield 12, 3) := by decide +kernel
theorem dX2_whyNoChair_4 : decode cX2_whyNoChair 4 = .ok (.iload_n 1, 1) := by decide +kernel
theorem dX2_whyNoChair_5 : decode cX2_whyNoChair 5 = .ok (.invokevirtual 90, 3) := by decide +kernel
theorem dX2_whyNoChair_8 : decode cX2_whyNoChair 8 = .ok (.ifCond .ne 5, 3) := by decide +kernel
theorem dX2_whyNoChair_11 : decode cX2_whyNoChair 11 = .ok (.iconst 1, 1) := by decide +kernel
theorem dX2_whyNoChair_12 : decode cX2_whyNoChair 12 = .ok (.ireturn, 1) := by decide +kernel
theorem dX2_whyNoChair_13 : decode cX2_whyNoChair 13 = .ok (.aload_n 0, 1) := by decide +kernel
theorem dX2_whyNoChair_14 : decode cX2_whyNoChair 14 = .ok (.getfield 12, 3) := by decide +kernel
theorem dX2_whyNoChair_17 : decode cX2_whyNoChair 17 = .ok (.iload_n 1, 1) := by decide +kernel
theorem dX2_whyNoChair_18 : decode cX2_whyNoChair 18 = .ok (.invokevirtual 93, 3) := by decide +kernel
theorem dX2_whyNoChair_21 : decode cX2_whyNoChair 21 = .ok (.ifCond .eq 5, 3) := by decide +kernel
theorem dX2_whyNoChair_24 : decode cX2_whyNoChair 24 = .ok (.iconst 3, 1) := by decide +kernel
theorem dX2_whyNoChair_25 : decode cX2_whyNoChair 25 = .ok (.ireturn, 1) := by decide +kernel
theorem dX2_whyNoChair_26 : decode cX2_whyNoChair 26 = .ok (.aload_n 0, 1) := by decide +kernel
theorem dX2_whyNoChair_27 : decode cX2_whyNoChair 27 = .ok (.getfield 12, 3) := by decide +kernel
theorem dX2_whyNoChair_30 : decode cX2_whyNoChair 30 = .ok (.getfield 87, 3) := by decide +kernel
theorem dX2_whyNoChair_33 : decode cX2_whyNoChair 33 = .ok (.bipush 11, 2) := by decide +kernel
theorem dX2_whyNoChair_35 : decode cX2_whyNoChair 35 = .ok (.if_icmp .lt 8, 3) := by decide +kernel
theorem dX2_whyNoChair_38 : decode cX2_whyNoChair 38 = .ok (.bipush 6, 2) := by decide +kernel
theorem dX2_whyNoChair_40 : decode cX2_whyNoChair 40 = .ok (.goto 4, 3) := by decide +kernel
theorem dX2_whyNoChair_43 : decode cX2_whyNoChair 43 = .ok (.iconst 0, 1) := by decide +kernel
theorem dX2_whyNoChair_44 : decode cX2_whyNoChair 44 = .ok (.ireturn, 1) := by decide +kernel
theorem dX2_addChair_0 : decode cX2_addChair 0 = .ok (.aload_n 0, 1) := by decide +kernel
theorem dX2_addChair_1 : decode cX2_addChair 1 = .ok (.getfield 12, 3) := by decide +kernel
theorem dX2_addChair_4 : decode cX2_addChair 4 = .ok (.iload_n 1, 1) := by decide +kernel
theorem dX2_addChair_5 : decode cX2_addChair 5 = .ok (.invokevirtual 96, 3) := by decide +kernel
theorem dX2_addChair_8 : decode cX2_addChair 8 = .ok (.aload_n 0, 1) := by decide +kernel
theorem dX2_addChair_9 : decode cX2_addChair 9 = .ok (.iconst 0, 1) := by decide +kernel
theorem dX2_addChair_10 : decode cX2_addChair 10 = .ok (.putfield 55, 3) := by decide +kernel
theorem dX2_addChair_13 : decode cX2_addChair 13 = .ok (.aload_n 0, 1) := by decide +kernel
theorem dX2_addChair_14 : decode cX2_addChair 14 = .ok (.getfield 12, 3) := by decide +kernel
theorem dX2_addChair_17 : decode cX2_addChair 17 = .ok (.getfield 87, 3) := by decide +kernel
theorem dX2_addChair_20 : decode cX2_addChair 20 = .ok (.ireturn, 1) := by decide +kernel
theorem dX2_whyNoWalker_0 : decode cX2_whyNoWalker 0 = .ok (.aload_n 0, 1) := by decide +kernel
theorem dX2_whyNoWalker_1 : decode cX2_whyNoWalker 1 = .ok (.getfield 12, 3) := by decide +kernel
theorem dX2_whyNoWalker_4 : decode cX2_whyNoWalker 4 = .ok (.iload_n 1, 1) := by decide +kernel
theorem dX2_whyNoWalker_5 : decode cX2_whyNoWalker 5 = .ok (.invokevirtual 90, 3) := by decide +kernel
theorem dX2_whyNoWalker_8 : decode cX2_whyNoWalker 8 = .ok (.ifCond .eq 13, 3) := by decide +kernel
theorem dX2_whyNoWalker_11 : decode cX2_whyNoWalker 11 = .ok (.iload_n 2, 1) := by decide +kernel
theorem dX2_whyNoWalker_12 : decode cX2_whyNoWalker 12 = .ok (.ifCond .lt 9, 3) := by decide +kernel
theorem dX2_whyNoWalker_15 : decode cX2_whyNoWalker 15 = .ok (.iload_n 2, 1) := by decide +kernel
theorem dX2_whyNoWalker_16 : decode cX2_whyNoWalker 16 = .ok (.bipush 7, 2) := by decide +kernel
theorem dX2_whyNoWalker_18 : decode cX2_whyNoWalker 18 = .ok (.if_icmp .lt 5, 3) := by decide +kernel
theorem dX2_whyNoWalker_21 : decode cX2_whyNoWalker 21 = .ok (.iconst 1, 1) := by decide +kernel
theorem dX2_whyNoWalker_22 : decode cX2_whyNoWalker 22 = .ok (.ireturn, 1) := by decide +kernel
theorem dX2_whyNoWalker_23 : decode cX2_whyNoWalker 23 = .ok (.iload_n 3, 1) := by decide +kernel
theorem dX2_whyNoWalker_24 : decode cX2_whyNoWalker 24 = .ok (.iconst 1, 1) := by decide +kernel
theorem dX2_whyNoWalker_25 : decode cX2_whyNoWalker 25 = .ok (.bipush 99, 2) := by decide +kernel
theorem dX2_whyNoWalker_27 : decode cX2_whyNoWalker 27 = .ok (.invokestatic 100, 3) := by decide +kernel
theorem dX2_whyNoWalker_30 : decode cX2_whyNoWalker 30 = .ok (.istore 4, 2) := by decide +kernel
theorem dX2_whyNoWalker_32 : decode cX2_whyNoWalker 32 = .ok (.iload 4, 2) := by decide +kernel
theorem dX2_whyNoWalker_34 : decode cX2_whyNoWalker 34 = .ok (.ifCond .eq 6, 3) := by decide +kernel
theorem dX2_whyNoWalker_37 : decode cX2_whyNoWalker 37 = .ok (.iload 4, 2) := by decide +kernel
theorem dX2_whyNoWalker_39 : decode cX2_whyNoWalker 39 = .ok (.ireturn, 1) := by decide +kernel
theorem dX2_whyNoWalker_40 : decode cX2_whyNoWalker 40 = .ok (.aload_n 0, 1) := by decide +kernel
theorem dX2_whyNoWalker_41 : decode cX2_whyNoWalker 41 = .ok (.getfield 42, 3) := by decide +kernel
theorem dX2_whyNoWalker_44 : decode cX2_whyNoWalker 44 = .ok (.bipush 12, 2) := by decide +kernel
theorem dX2_whyNoWalker_46 : decode cX2_whyNoWalker 46 = .ok (.if_icmp .lt 6, 3) := by decide +kernel
theorem dX2_whyNoWalker_49 : decode cX2_whyNoWalker 49 = .ok (.bipush 6, 2) := by decide +kernel
theorem dX2_whyNoWalker_51 : decode cX2_whyNoWalker 51 = .ok (.ireturn, 1) := by decide +kernel
theorem dX2_whyNoWalker_52 : decode cX2_whyNoWalker 52 = .ok (.aload_n 0, 1) := by decide +kernel
theorem dX2_whyNoWalker_53 : decode cX2_whyNoWalker 53 = .ok (.iload_n 1, 1) := by decide +kernel
theorem dX2_whyNoWalker_54 : decode cX2_whyNoWalker 54 = .ok (.invokevirtual 104, 3) := by decide +kernel
theorem dX2_whyNoWalker_57 : decode cX2_whyNoWalker 57 = .ok (.ifCond .eq 7, 3) := by decide +kernel
theorem dX2_whyNoWalker_60 : decode cX2_whyNoWalker 60 = .ok (.iconst 3, 1) := by decide +kernel
theorem dX2_whyNoWalker_61 : decode cX2_whyNoWalker 61 = .ok (.goto 4, 3) := by decide +kernel
theorem dX2_whyNoWalker_64 : decode cX2_whyNoWalker 64 = .ok (.iconst 0, 1) := by decide +kernel
theorem dX2_whyNoWalker_65 : decode cX2_whyNoWalker 65 = .ok (.ireturn, 1) := by decide +kernel
theorem dX2_addWalker_0 : decode cX2_addWalker 0 = .ok (.aload_n 0, 1) := by decide +kernel
theorem dX2_addWalker_1 : decode cX2_addWalker 1 = .ok (.getfield 42, 3) := by decide +kernel
theorem dX2_addWalker_4 : decode cX2_addWalker 4 = .ok (.istore 4, 2) := by decide +kernel
theorem dX2_addWalker_6 : decode cX2_addWalker 6 = .ok (.iload 4, 2) := by decide +kernel
theorem dX2_addWalker_8 : decode cX2_addWalker 8 = .ok (.ifCond .lt 42, 3) := by decide +kernel
theorem dX2_addWalker_11 : decode cX2_addWalker 11 = .ok (.iload 4, 2) := by decide +kernel
theorem dX2_addWalker_13 : decode cX2_addWalker 13 = .ok (.bipush 12, 2) := by decide +kernel
theorem dX2_addWalker_15 : decode cX2_addWalker 15 = .ok (.if_icmp .ge 35, 3) := by decide +kernel
theorem dX2_addWalker_18 : decode cX2_addWalker 18 = .ok (.aload_n 0, 1) := by decide +kernel
theorem dX2_addWalker_19 : decode cX2_addWalker 19 = .ok (.getfield 34, 3) := by decide +kernel
theorem dX2_addWalker_22 : decode cX2_addWalker 22 = .ok (.iload 4, 2) := by decide +kernel
theorem dX2_addWalker_24 : decode cX2_addWalker 24 = .ok (.aaload, 1) := by decide +kernel
theorem dX2_addWalker_25 : decode cX2_addWalker 25 = .ok (.iload_n 1, 1) := by decide +kernel
theorem dX2_addWalker_26 : decode cX2_addWalker 26 = .ok (.iload_n 2, 1) := by decide +kernel
theorem dX2_addWalker_27 : decode cX2_addWalker 27 = .ok (.iload_n 3, 1) := by decide +kernel
theorem dX2_addWalker_28 : decode cX2_addWalker 28 = .ok (.invokevirtual 107, 3) := by decide +kernel
theorem dX2_addWalker_31 : decode cX2_addWalker 31 = .ok (.aload_n 0, 1) := by decide +kernel
theorem dX2_addWalker_32 : decode cX2_addWalker 32 = .ok (.iload_n 1, 1) := by decide +kernel
theorem dX2_addWalker_33 : decode cX2_addWalker 33 = .ok (.iconst 1, 1) := by decide +kernel
theorem dX2_addWalker_34 : decode cX2_addWalker 34 = .ok (.invokevirtual 111, 3) := by decide +kernel
theorem dX2_addWalker_37 : decode cX2_addWalker 37 = .ok (.aload_n 0, 1) := by decide +kernel
theorem dX2_addWalker_38 : decode cX2_addWalker 38 = .ok (.iload 4, 2) := by decide +kernel
theorem dX2_addWalker_40 : decode cX2_addWalker 40 = .ok (.iconst 1, 1) := by decide +kernel
theorem dX2_addWalker_41 : decode cX2_addWalker 41 = .ok (.iadd, 1) := by decide +kernel
theorem dX2_addWalker_42 : decode cX2_addWalker 42 = .ok (.putfield 42, 3) := by decide +kernel
theorem dX2_addWalker_45 : decode cX2_addWalker 45 = .ok (.aload_n 0, 1) := by decide +kernel
theorem dX2_addWalker_46 : decode cX2_addWalker 46 = .ok (.iconst 0, 1) := by decide +kernel
theorem dX2_addWalker_47 : decode cX2_addWalker 47 = .ok (.putfield 55, 3) := by decide +kernel
theorem dX2_addWalker_50 : decode cX2_addWalker 50 = .ok (.iload 4, 2) := by decide +kernel
theorem dX2_addWalker_52 : decode cX2_addWalker 52 = .ok (.ireturn, 1) := by decide +kernel
theorem dX2_walkAll_0 : decode cX2_walkAll 0 = .ok (.iconst 0, 1) := by decide +kernel
theorem dX2_walkAll_1 : decode cX2_walkAll 1 = .ok (.istore_n 1, 1) := by decide +kernel
theorem dX2_walkAll_2 : decode cX2_walkAll 2 = .ok (.iload_n 1, 1) := by decide +kernel
theorem dX2_walkAll_3 : decode cX2_walkAll 3 = .ok (.aload_n 0, 1) := by decide +kernel
theorem dX2_walkAll_4 : decode cX2_walkAll 4 = .ok (.getfield 42, 3) := by decide +kernel
theorem dX2_walkAll_7 : decode cX2_walkAll 7 = .ok (.if_icmp .ge 37, 3) := by decide +kernel
theorem dX2_walkAll_10 : decode cX2_walkAll 10 = .ok (.iload_n 1, 1) := by decide +kernel
theorem dX2_walkAll_11 : decode cX2_walkAll 11 = .ok (.bipush 12, 2) := by decide +kernel
theorem dX2_walkAll_13 : decode cX2_walkAll 13 = .ok (.if_icmp .ge 31, 3) := by decide +kernel
theorem dX2_walkAll_16 : decode cX2_walkAll 16 = .ok (.aload_n 0, 1) := by decide +kernel
theorem dX2_walkAll_17 : decode cX2_walkAll 17 = .ok (.getfield 34, 3) := by decide +kernel
theorem dX2_walkAll_20 : decode cX2_walkAll 20 = .ok (.iload_n 1, 1) := by decide +kernel
theorem dX2_walkAll_21 : decode cX2_walkAll 21 = .ok (.aaload, 1) := by decide +kernel
theorem dX2_walkAll_22 : decode cX2_walkAll 22 = .ok (.getfield 76, 3) := by decide +kernel
theorem dX2_walkAll_25 : decode cX2_walkAll 25 = .ok (.ifCond .eq 13, 3) := by decide +kernel
theorem dX2_walkAll_28 : decode cX2_walkAll 28 = .ok (.aload_n 0, 1) := by decide +kernel
theorem dX2_walkAll_29 : decode cX2_walkAll 29 = .ok (.aload_n 0, 1) := by decide +kernel
theorem dX2_walkAll_30 : decode cX2_walkAll 30 = .ok (.getfield 34, 3) := by decide +kernel
theorem dX2_walkAll_33 : decode cX2_walkAll 33 = .ok (.iload_n 1, 1) := by decide +kernel
theorem dX2_walkAll_34 : decode cX2_walkAll 34 = .ok (.aaload, 1) := by decide +kernel
theorem dX2_walkAll_35 : decode cX2_walkAll 35 = .ok (.invokevirtual 115, 3) := by decide +kernel
theorem dX2_walkAll_38 : decode cX2_walkAll 38 = .ok (.iinc 1 1, 3) := by decide +kernel
theorem dX2_walkAll_41 : decode cX2_walkAll 41 = .ok (.goto (-39), 3) := by decide +kernel
theorem dX2_walkAll_44 : decode cX2_walkAll 44 = .ok (.return_, 1) := by decide +kernel
theorem dX2_walk_0 : decode cX2_walk 0 = .ok (.aload_n 1, 1) := by decide +kernel
theorem dX2_walk_1 : decode cX2_walk 1 = .ok (.dup, 1) := by decide +kernel
theorem dX2_walk_2 : decode cX2_walk 2 = .ok (.getfield 118, 3) := by decide +kernel
theorem dX2_walk_5 : decode cX2_walk 5 = .ok (.aload_n 0, 1) := by decide +kernel
theorem dX2_walk_6 : decode cX2_walk 6 = .ok (.getfield 12, 3) := by decide +kernel
theorem dX2_walk_9 : decode cX2_walk 9 = .ok (.aload_n 1, 1) := by decide +kernel
theorem dX2_walk_10 : decode cX2_walk 10 = .ok (.getfield 121, 3) := by decide +kernel
theorem dX2_walk_13 : decode cX2_walk 13 = .ok (.invokevirtual 93, 3) := by decide +kernel
theorem dX2_walk_16 : decode cX2_walk 16 = .ok (.ifCond .eq 10, 3) := by decide +kernel
theorem dX2_walk_19 : decode cX2_walk 19 = .ok (.aload_n 1, 1) := by decide +kernel
theorem dX2_walk_20 : decode cX2_walk 20 = .ok (.getfield 124, 3) := by decide +kernel
theorem dX2_walk_23 : decode cX2_walk 23 = .ok (.goto 7, 3) := by decide +kernel
theorem dX2_walk_26 : decode cX2_walk 26 = .ok (.aload_n 1, 1) := by decide +kernel
theorem dX2_walk_27 : decode cX2_walk 27 = .ok (.getfield 127, 3) := by decide +kernel
theorem dX2_walk_30 : decode cX2_walk 30 = .ok (.iadd, 1) := by decide +kernel
theorem dX2_walk_31 : decode cX2_walk 31 = .ok (.putfield 118, 3) := by decide +kernel
theorem dX2_walk_34 : decode cX2_walk 34 = .ok (.aload_n 1, 1) := by decide +kernel
theorem dX2_walk_35 : decode cX2_walk 35 = .ok (.getfield 118, 3) := by decide +kernel
theorem dX2_walk_38 : decode cX2_walk 38 = .ok (.bipush 100, 2) := by decide +kernel
theorem dX2_walk_40 : decode cX2_walk 40 = .ok (.if_icmp .ge 4, 3) := by decide +kernel
theorem dX2_walk_43 : decode cX2_walk 43 = .ok (.return_, 1) := by decide +kernel
theorem dX2_walk_44 : decode cX2_walk 44 = .ok (.aload_n 1, 1) := by decide +kernel
theorem dX2_walk_45 : decode cX2_walk 45 = .ok (.getfield 121, 3) := by decide +kernel
theorem dX2_walk_48 : decode cX2_walk 48 = .ok (.iconst 1, 1) := by decide +kernel
theorem dX2_walk_49 : decode cX2_walk 49 = .ok (.iadd, 1) := by decide +kernel
theorem dX2_walk_50 : decode cX2_walk 50 = .ok (.aload_n 0, 1) := by decide +kernel
theorem dX2_walk_51 : decode cX2_walk 51 = .ok (.getfield 12, 3) := by decide +kernel
theorem dX2_walk_54 : decode cX2_walk 54 = .ok (.getfield 130, 3) := by decide +kernel
theorem dX2_walk_57 : decode cX2_walk 57 = .ok (.if_icmp .ge 12, 3) := by decide +kernel
theorem dX2_walk_60 : decode cX2_walk 60 = .ok (.aload_n 1, 1) := by decide +kernel
theorem dX2_walk_61 : decode cX2_walk 61 = .ok (.getfield 121, 3) := by decide +kernel
theorem dX2_walk_64 : decode cX2_walk 64 = .ok (.iconst 1, 1) := by decide +kernel
theorem dX2_walk_65 : decode cX2_walk 65 = .ok (.iadd, 1) := by decide +kernel
theorem dX2_walk_66 : decode cX2_walk 66 = .ok (.goto 4, 3) := by decide +kernel
theorem dX2_walk_69 : decode cX2_walk 69 = .ok (.iconst 0, 1) := by decide +kernel
theorem dX2_walk_70 : decode cX2_walk 70 = .ok (.istore_n 2, 1) := by decide +kernel
theorem dX2_walk_71 : decode cX2_walk 71 = .ok (.aload_n 0, 1) := by decide +kernel
theorem dX2_walk_72 : decode cX2_walk 72 = .ok (.iload_n 2, 1) := by decide +kernel
theorem dX2_walk_73 : decode cX2_walk 73 = .ok (.invokevirtual 104, 3) := by decide +kernel
theorem dX2_walk_76 : decode cX2_walk 76 = .ok (.ifCond .eq 12, 3) := by decide +kernel
theorem dX2_walk_79 : decode cX2_walk 79 = .ok (.aload_n 1, 1) := by decide +kernel
theorem dX2_walk_80 : decode cX2_walk 80 = .ok (.bipush 99, 2) := by decide +kernel
theorem dX2_walk_82 : decode cX2_walk 82 = .ok (.putfield 118, 3) := by decide +kernel
theorem dX2_walk_85 : decode cX2_walk 85 = .ok (.goto 34, 3) := by decide +kernel
theorem dX2_walk_88 : decode cX2_walk 88 = .ok (.aload_n 0, 1) := by decide +kernel
theorem dX2_walk_89 : decode cX2_walk 89 = .ok (.aload_n 1, 1) := by decide +kernel
theorem dX2_walk_90 : decode cX2_walk 90 = .ok (.getfield 121, 3) := by decide +kernel
theorem dX2_walk_93 : decode cX2_walk 93 = .ok (.iconst 0, 1) := by decide +kernel
theorem dX2_walk_94 : decode cX2_walk 94 = .ok (.invokevirtual 111, 3) := by decide +kernel
theorem dX2_walk_97 : decode cX2_walk 97 = .ok (.aload_n 0, 1) := by decide +kernel
theorem dX2_walk_98 : decode cX2_walk 98 = .ok (.iload_n 2, 1) := by decide +kernel
theorem dX2_walk_99 : decode cX2_walk 99 = .ok (.iconst 1, 1) := by decide +kernel
theorem dX2_walk_100 : decode cX2_walk 100 = .ok (.invokevirtual 111, 3) := by decide +kernel
theorem dX2_walk_103 : decode cX2_walk 103 = .ok (.aload_n 1, 1) := by decide +kernel
theorem dX2_walk_104 : decode cX2_walk 104 = .ok (.dup, 1) := by decide +kernel
theorem dX2_walk_105 : decode cX2_walk 105 = .ok (.getfield 118, 3) := by decide +kernel
theorem dX2_walk_108 : decode cX2_walk 108 = .ok (.bipush 100, 2) := by decide +kernel
theorem dX2_walk_110 : decode cX2_walk 110 = .ok (.isub, 1) := by decide +kernel
theorem dX2_walk_111 : decode cX2_walk 111 = .ok (.putfield 118, 3) := by decide +kernel
theorem dX2_walk_114 : decode cX2_walk 114 = .ok (.aload_n 1, 1) := by decide +kernel
theorem dX2_walk_115 : decode cX2_walk 115 = .ok (.iload_n 2, 1) := by decide +kernel
theorem dX2_walk_116 : decode cX2_walk 116 = .ok (.putfield 121, 3) := by decide +kernel
theorem dX2_walk_119 : decode cX2_walk 119 = .ok (.return_, 1) := by decide +kernel
theorem dX2_passTenth_0 : decode cX2_passTenth 0 = .ok (.aload_n 0, 1) := by decide +kernel
theorem dX2_passTenth_1 : decode cX2_passTenth 1 = .ok (.invokevirtual 133, 3) := by decide +kernel
theorem dX2_passTenth_4 : decode cX2_passTenth 4 = .ok (.aload_n 0, 1) := by decide +kernel
theorem dX2_passTenth_5 : decode cX2_passTenth 5 = .ok (.dup, 1) := by decide +kernel
theorem dX2_passTenth_6 : decode cX2_passTenth 6 = .ok (.getfield 49, 3) := by decide +kernel
theorem dX2_passTenth_9 : decode cX2_passTenth 9 = .ok (.iconst 1, 1) := by decide +kernel
theorem dX2_passTenth_10 : decode cX2_passTenth 10 = .ok (.iadd, 1) := by decide +kernel
theorem dX2_passTenth_11 : decode cX2_passTenth 11 = .ok (.putfield 49, 3) := by decide +kernel
theorem dX2_passTenth_14 : decode cX2_passTenth 14 = .ok (.aload_n 0, 1) := by decide +kernel
theorem dX2_passTenth_15 : decode cX2_passTenth 15 = .ok (.getfield 21, 3) := by decide +kernel
theorem dX2_passTenth_18 : decode cX2_passTenth 18 = .ok (.invokevirtual 136, 3) := by decide +kernel
theorem dX2_passTenth_21 : decode cX2_passTenth 21 = .ok (.istore_n 1, 1) := by decide +kernel
theorem dX2_passTenth_22 : decode cX2_passTenth 22 = .ok (.aload_n 0, 1) := by decide +kernel
theorem dX2_passTenth_23 : decode cX2_passTenth 23 = .ok (.getfield 49, 3) := by decide +kernel
theorem dX2_passTenth_26 : decode cX2_passTenth 26 = .ok (.sipush 300, 3) := by decide +kernel
theorem dX2_passTenth_29 : decode cX2_passTenth 29 = .ok (.if_icmp .ge 22, 3) := by decide +kernel
theorem dX2_passTenth_32 : decode cX2_passTenth 32 = .ok (.aload_n 0, 1) := by decide +kernel
theorem dX2_passTenth_33 : decode cX2_passTenth 33 = .ok (.getfield 21, 3) := by decide +kernel
theorem dX2_passTenth_36 : decode cX2_passTenth 36 = .ok (.aload_n 0, 1) := by decide +kernel
theorem dX2_passTenth_37 : decode cX2_passTenth 37 = .ok (.getfield 49, 3) := by decide +kernel
theorem dX2_passTenth_40 : decode cX2_passTenth 40 = .ok (.iload_n 1, 1) := by decide +kernel
theorem dX2_passTenth_41 : decode cX2_passTenth 41 = .ok (.aload_n 0, 1) := by decide +kernel
theorem dX2_passTenth_42 : decode cX2_passTenth 42 = .ok (.invokevirtual 139, 3) := by decide +kernel
theorem dX2_passTenth_45 : decode cX2_passTenth 45 = .ok (.invokevirtual 143, 3) := by decide +kernel
theorem dX2_passTenth_48 : decode cX2_passTenth 48 = .ok (.ifCond .eq 7, 3) := by decide +kernel
theorem dX2_passTenth_51 : decode cX2_passTenth 51 = .ok (.iconst 1, 1) := by decide +kernel
theorem dX2_passTenth_52 : decode cX2_passTenth 52 = .ok (.goto 4, 3) := by decide +kernel
theorem dX2_passTenth_55 : decode cX2_passTenth 55 = .ok (.iconst 0, 1) := by decide +kernel
theorem dX2_passTenth_56 : decode cX2_passTenth 56 = .ok (.ireturn, 1) := by decide +kernel
theorem dX2_isLikedAtChair_0 : decode cX2_isLikedAtChair 0 = .ok (.aload_n 0, 1) := by decide +kernel
theorem dX2_isLikedAtChair_1 : decode cX2_isLikedAtChair 1 = .ok (.getfield 21, 3) := by decide +kernel
theorem dX2_isLikedAtChair_4 : decode cX2_isLikedAtChair 4 = .ok (.getfield 147, 3) := by decide +kernel
theorem dX2_isLikedAtChair_7 : decode cX2_isLikedAtChair 7 = .ok (.iconst 3, 1) := by decide +kernel
theorem dX2_isLikedAtChair_8 : decode cX2_isLikedAtChair 8 = .ok (.if_icmp .ne 25, 3) := by decide +kernel
theorem dX2_isLikedAtChair_11 : decode cX2_isLikedAtChair 11 = .ok (.aload_n 0, 1) := by decide +kernel
theorem dX2_isLikedAtChair_12 : decode cX2_isLikedAtChair 12 = .ok (.getfield 42, 3) := by decide +kernel
theorem dX2_isLikedAtChair_15 : decode cX2_isLikedAtChair 15 = .ok (.ifCond .le 18, 3) := by decide +kernel
theorem dX2_isLikedAtChair_18 : decode cX2_isLikedAtChair 18 = .ok (.aload_n 0, 1) := by decide +kernel
theorem dX2_isLikedAtChair_19 : decode cX2_isLikedAtChair 19 = .ok (.getfield 21, 3) := by decide +kernel
theorem dX2_isLikedAtChair_22 : decode cX2_isLikedAtChair 22 = .ok (.getfield 150, 3) := by decide +kernel
theorem dX2_isLikedAtChair_25 : decode cX2_isLikedAtChair 25 = .ok (.aload_n 0, 1) := by decide +kernel
theorem dX2_isLikedAtChair_26 : decode cX2_isLikedAtChair 26 = .ok (.getfield 42, 3) := by decide +kernel
theorem dX2_isLikedAtChair_29 : decode cX2_isLikedAtChair 29 = .ok (.irem, 1) := by decide +kernel
theorem dX2_isLikedAtChair_30 : decode cX2_isLikedAtChair 30 = .ok (.goto 5, 3) := by decide +kernel
theorem dX2_isLikedAtChair_33 : decode cX2_isLikedAtChair 33 = .ok (.bipush (-9), 2) := by decide +kernel
theorem dX2_isLikedAtChair_35 : decode cX2_isLikedAtChair 35 = .ok (.istore_n 1, 1) := by decide +kernel
theorem dX2_isLikedAtChair_36 : decode cX2_isLikedAtChair 36 = .ok (.aload_n 0, 1) := by decide +kernel
theorem dX2_isLikedAtChair_37 : decode cX2_isLikedAtChair 37 = .ok (.iload_n 1, 1) := by decide +kernel
theorem dX2_isLikedAtChair_38 : decode cX2_isLikedAtChair 38 = .ok (.invokevirtual 79, 3) := by decide +kernel
theorem dX2_isLikedAtChair_41 : decode cX2_isLikedAtChair 41 = .ok (.ifCond .eq 26, 3) := by decide +kernel
theorem dX2_isLikedAtChair_44 : decode cX2_isLikedAtChair 44 = .ok (.aload_n 0, 1) := by decide +kernel
theorem dX2_isLikedAtChair_45 : decode cX2_isLikedAtChair 45 = .ok (.getfield 12, 3) := by decide +kernel
theorem dX2_isLikedAtChair_48 : decode cX2_isLikedAtChair 48 = .ok (.aload_n 0, 1) := by decide +kernel
theorem dX2_isLikedAtChair_49 : decode cX2_isLikedAtChair 49 = .ok (.getfield 34, 3) := by decide +kernel
theorem dX2_isLikedAtChair_52 : decode cX2_isLikedAtChair 52 = .ok (.iload_n 1, 1) := by decide +kernel
theorem dX2_isLikedAtChair_53 : decode cX2_isLikedAtChair 53 = .ok (.aaload, 1) := by decide +kernel
theorem dX2_isLikedAtChair_54 : decode cX2_isLikedAtChair 54 = .ok (.getfield 121, 3) := by decide +kernel
theorem dX2_isLikedAtChair_57 : decode cX2_isLikedAtChair 57 = .ok (.invokevirtual 93, 3) := by decide +kernel
theorem dX2_isLikedAtChair_60 : decode cX2_isLikedAtChair 60 = .ok (.ifCond .eq 7, 3) := by decide +kernel
theorem dX2_isLikedAtChair_63 : decode cX2_isLikedAtChair 63 = .ok (.iconst 1, 1) := by decide +kernel
theorem dX2_isLikedAtChair_64 : decode cX2_isLikedAtChair 64 = .ok (.goto 4, 3) := by decide +kernel
theorem dX2_isLikedAtChair_67 : decode cX2_isLikedAtChair 67 = .ok (.iconst 0, 1) := by decide +kernel
theorem dX2_isLikedAtChair_68 : decode cX2_isLikedAtChair 68 = .ok (.ireturn, 1) := by decide +kernel
theorem dX2_endRound_0 : decode cX2_endRound 0 = .ok (.aload_n 0, 1) := by decide +kernel
theorem dX2_endRound_1 : decode cX2_endRound 1 = .ok (.getfield 28, 3) := by decide +kernel
theorem dX2_endRound_4 : decode cX2_endRound 4 = .ok (.aload_n 0, 1) := by decide +kernel
theorem dX2_endRound_5 : decode cX2_endRound 5 = .ok (.invokevirtual 153, 3) := by decide +kernel
theorem dX2_endRound_8 : decode cX2_endRound 8 = .ok (.aload_n 0, 1) := by decide +kernel
theorem dX2_endRound_9 : decode cX2_endRound 9 = .ok (.invokevirtual 157, 3) := by decide +kernel
theorem dX2_endRound_12 : decode cX2_endRound 12 = .ok (.istore_n 1, 1) := by decide +kernel
theorem dX2_endRound_13 : decode cX2_endRound 13 = .ok (.aload_n 0, 1) := by decide +kernel
theorem dX2_endRound_14 : decode cX2_endRound 14 = .ok (.iload_n 1, 1) := by decide +kernel
theorem dX2_endRound_15 : decode cX2_endRound 15 = .ok (.invokevirtual 160, 3) := by decide +kernel
theorem dX2_endRound_18 : decode cX2_endRound 18 = .ok (.ifCond .eq 21, 3) := by decide +kernel
theorem dX2_endRound_21 : decode cX2_endRound 21 = .ok (.aload_n 0, 1) := by decide +kernel
theorem dX2_endRound_22 : decode cX2_endRound 22 = .ok (.getfield 12, 3) := by decide +kernel
theorem dX2_endRound_25 : decode cX2_endRound 25 = .ok (.aload_n 0, 1) := by decide +kernel
theorem dX2_endRound_26 : decode cX2_endRound 26 = .ok (.getfield 12, 3) := by decide +kernel
theorem dX2_endRound_29 : decode cX2_endRound 29 = .ok (.aload_n 0, 1) := by decide +kernel
theorem dX2_endRound_30 : decode cX2_endRound 30 = .ok (.getfield 46, 3) := by decide +kernel
theorem dX2_endRound_33 : decode cX2_endRound 33 = .ok (.invokevirtual 163, 3) := by decide +kernel
theorem dX2_endRound_36 : decode cX2_endRound 36 = .ok (.invokevirtual 167, 3) := by decide +kernel
theorem dX2_endRound_39 : decode cX2_endRound 39 = .ok (.aload_n 0, 1) := by decide +kernel
theorem dX2_endRound_40 : decode cX2_endRound 40 = .ok (.iload_n 1, 1) := by decide +kernel
theorem dX2_endRound_41 : decode cX2_endRound 41 = .ok (.invokevirtual 170, 3) := by decide +kernel
theorem dX2_endRound_44 : decode cX2_endRound 44 = .ok (.ifCond .eq 27, 3) := by decide +kernel
theorem dX2_endRound_47 : decode cX2_endRound 47 = .ok (.aload_n 0, 1) := by decide +kernel
theorem dX2_endRound_48 : decode cX2_endRound 48 = .ok (.getfield 34, 3) := by decide +kernel
theorem dX2_endRound_51 : decode cX2_endRound 51 = .ok (.iload_n 1, 1) := by decide +kernel
theorem dX2_endRound_52 : decode cX2_endRound 52 = .ok (.aaload, 1) := by decide +kernel
theorem dX2_endRound_53 : decode cX2_endRound 53 = .ok (.iconst 0, 1) := by decide +kernel
theorem dX2_endRound_54 : decode cX2_endRound 54 = .ok (.putfield 76, 3) := by decide +kernel
theorem dX2_endRound_57 : decode cX2_endRound 57 = .ok (.aload_n 0, 1) := by decide +kernel
theorem dX2_endRound_58 : decode cX2_endRound 58 = .ok (.aload_n 0, 1) := by decide +kernel
theorem dX2_endRound_59 : decode cX2_endRound 59 = .ok (.getfield 34, 3) := by decide +kernel
theorem dX2_endRound_62 : decode cX2_endRound 62 = .ok (.iload_n 1, 1) := by decide +kernel
theorem dX2_endRound_63 : decode cX2_endRound 63 = .ok (.aaload, 1) := by decide +kernel
theorem dX2_endRound_64 : decode cX2_endRound 64 = .ok (.getfield 121, 3) := by decide +kernel
theorem dX2_endRound_67 : decode cX2_endRound 67 = .ok (.iconst 0, 1) := by decide +kernel
theorem dX2_endRound_68 : decode cX2_endRound 68 = .ok (.invokevirtual 111, 3) := by decide +kernel
theorem dX2_endRound_71 : decode cX2_endRound 71 = .ok (.aload_n 0, 1) := by decide +kernel
theorem dX2_endRound_72 : decode cX2_endRound 72 = .ok (.iconst 0, 1) := by decide +kernel
theorem dX2_endRound_73 : decode cX2_endRound 73 = .ok (.putfield 49, 3) := by decide +kernel
theorem dX2_endRound_76 : decode cX2_endRound 76 = .ok (.aload_n 0, 1) := by decide +kernel
theorem dX2_endRound_77 : decode cX2_endRound 77 = .ok (.dup, 1) := by decide +kernel
theorem dX2_endRound_78 : decode cX2_endRound 78 = .ok (.getfield 52, 3) := by decide +kernel
theorem dX2_endRound_81 : decode cX2_endRound 81 = .ok (.iconst 1, 1) := by decide +kernel
theorem dX2_endRound_82 : decode cX2_endRound 82 = .ok (.iadd, 1) := by decide +kernel
theorem dX2_endRound_83 : decode cX2_endRound 83 = .ok (.putfield 52, 3) := by decide +kernel
theorem dX2_endRound_86 : decode cX2_endRound 86 = .ok (.aload_n 0, 1) := by decide +kernel
theorem dX2_endRound_87 : decode cX2_endRound 87 = .ok (.iload_n 1, 1) := by decide +kernel
theorem dX2_endRound_88 : decode cX2_endRound 88 = .ok (.ifCond .lt 11, 3) := by decide +kernel
theorem dX2_endRound_91 : decode cX2_endRound 91 = .ok (.aload_n 0, 1) := by decide +kernel
theorem dX2_endRound_92 : decode cX2_endRound 92 = .ok (.invokevirtual 83, 3) := by decide +kernel
theorem dX2_endRound_95 : decode cX2_endRound 95 = .ok (.iconst 1, 1) := by decide +kernel
theorem dX2_endRound_96 : decode cX2_endRound 96 = .ok (.if_icmp .gt 7, 3) := by decide +kernel
theorem dX2_endRound_99 : decode cX2_endRound 99 = .ok (.iconst 1, 1) := by decide +kernel
theorem dX2_endRound_100 : decode cX2_endRound 100 = .ok (.goto 4, 3) := by decide +kernel
theorem dX2_endRound_103 : decode cX2_endRound 103 = .ok (.iconst 0, 1) := by decide +kernel
theorem dX2_endRound_104 : decode cX2_endRound 104 = .ok (.putfield 55, 3) := by decide +kernel
theorem dX2_endRound_107 : decode cX2_endRound 107 = .ok (.iload_n 1, 1) := by decide +kernel
theorem dX2_endRound_108 : decode cX2_endRound 108 = .ok (.ireturn, 1) := by decide +kernel
theorem dX2_losesChair_0 : decode cX2_losesChair 0 = .ok (.iload_n 1, 1) := by decide +kernel
theorem dX2_losesChair_1 : decode cX2_losesChair 1 = .ok (.ifCond .lt 18, 3) := by decide +kernel
theorem dX2_losesChair_4 : decode cX2_losesChair 4 = .ok (.aload_n 0, 1) := by decide +kernel
theorem dX2_losesChair_5 : decode cX2_losesChair 5 = .ok (.getfield 12, 3) := by decide +kernel
theorem dX2_losesChair_8 : decode cX2_losesChair 8 = .ok (.getfield 87, 3) := by decide +kernel
theorem dX2_losesChair_11 : decode cX2_losesChair 11 = .ok (.iconst 1, 1) := by decide +kernel
theorem dX2_losesChair_12 : decode cX2_losesChair 12 = .ok (.if_icmp .le 7, 3) := by decide +kernel
theorem dX2_losesChair_15 : decode cX2_losesChair 15 = .ok (.iconst 1, 1) := by decide +kernel
theorem dX2_losesChair_16 : decode cX2_losesChair 16 = .ok (.goto 4, 3) := by decide +kernel
theorem dX2_losesChair_19 : decode cX2_losesChair 19 = .ok (.iconst 0, 1) := by decide +kernel
theorem dX2_losesChair_20 : decode cX2_losesChair 20 = .ok (.ireturn, 1) := by decide +kernel
theorem dX2_whoGoes_0 : decode cX2_whoGoes 0 = .ok (.bipush (-9), 2) := by decide +kernel
theorem dX2_whoGoes_2 : decode cX2_whoGoes 2 = .ok (.istore_n 1, 1) := by decide +kernel
theorem dX2_whoGoes_3 : decode cX2_whoGoes 3 = .ok (.iconst (-1), 1) := by decide +kernel
theorem dX2_whoGoes_4 : decode cX2_whoGoes 4 = .ok (.istore_n 2, 1) := by decide +kernel
theorem dX2_whoGoes_5 : decode cX2_whoGoes 5 = .ok (.iconst 0, 1) := by decide +kernel
theorem dX2_whoGoes_6 : decode cX2_whoGoes 6 = .ok (.istore_n 3, 1) := by decide +kernel
theorem dX2_whoGoes_7 : decode cX2_whoGoes 7 = .ok (.iload_n 3, 1) := by decide +kernel
theorem dX2_whoGoes_8 : decode cX2_whoGoes 8 = .ok (.aload_n 0, 1) := by decide +kernel
theorem dX2_whoGoes_9 : decode cX2_whoGoes 9 = .ok (.getfield 42, 3) := by decide +kernel
theorem dX2_whoGoes_12 : decode cX2_whoGoes 12 = .ok (.if_icmp .ge 57, 3) := by decide +kernel
theorem dX2_whoGoes_15 : decode cX2_whoGoes 15 = .ok (.aload_n 0, 1) := by decide +kernel
theorem dX2_whoGoes_16 : decode cX2_whoGoes 16 = .ok (.iload_n 3, 1) := by decide +kernel
theorem dX2_whoGoes_17 : decode cX2_whoGoes 17 = .ok (.invokevirtual 79, 3) := by decide +kernel
theorem dX2_whoGoes_20 : decode cX2_whoGoes 20 = .ok (.ifCond .eq 43, 3) := by decide +kernel
theorem dX2_whoGoes_23 : decode cX2_whoGoes 23 = .ok (.aload_n 0, 1) := by decide +kernel
theorem dX2_whoGoes_24 : decode cX2_whoGoes 24 = .ok (.getfield 28, 3) := by decide +kernel
theorem dX2_whoGoes_27 : decode cX2_whoGoes 27 = .ok (.iload_n 3, 1) := by decide +kernel
theorem dX2_whoGoes_28 : decode cX2_whoGoes 28 = .ok (.invokevirtual 173, 3) := by decide +kernel
theorem dX2_whoGoes_31 : decode cX2_whoGoes 31 = .ok (.ifCond .ne 32, 3) := by decide +kernel
theorem dX2_whoGoes_34 : decode cX2_whoGoes 34 = .ok (.aload_n 0, 1) := by decide +kernel
theorem dX2_whoGoes_35 : decode cX2_whoGoes 35 = .ok (.getfield 12, 3) := by decide +kernel
theorem dX2_whoGoes_38 : decode cX2_whoGoes 38 = .ok (.aload_n 0, 1) := by decide +kernel
theorem dX2_whoGoes_39 : decode cX2_whoGoes 39 = .ok (.getfield 34, 3) := by decide +kernel
theorem dX2_whoGoes_42 : decode cX2_whoGoes 42 = .ok (.iload_n 3, 1) := by decide +kernel
theorem dX2_whoGoes_43 : decode cX2_whoGoes 43 = .ok (.aaload, 1) := by decide +kernel
theorem dX2_whoGoes_44 : decode cX2_whoGoes 44 = .ok (.getfield 121, 3) := by decide +kernel
theorem dX2_whoGoes_47 : decode cX2_whoGoes 47 = .ok (.invokevirtual 176, 3) := by decide +kernel
theorem dX2_whoGoes_50 : decode cX2_whoGoes 50 = .ok (.istore 4, 2) := by decide +kernel
theorem dX2_whoGoes_52 : decode cX2_whoGoes 52 = .ok (.iload 4, 2) := by decide +kernel
theorem dX2_whoGoes_54 : decode cX2_whoGoes 54 = .ok (.iload_n 2, 1) := by decide +kernel
theorem dX2_whoGoes_55 : decode cX2_whoGoes 55 = .ok (.if_icmp .lt 8, 3) := by decide +kernel
theorem dX2_whoGoes_58 : decode cX2_whoGoes 58 = .ok (.iload 4, 2) := by decide +kernel
theorem dX2_whoGoes_60 : decode cX2_whoGoes 60 = .ok (.istore_n 2, 1) := by decide +kernel
theorem dX2_whoGoes_61 : decode cX2_whoGoes 61 = .ok (.iload_n 3, 1) := by decide +kernel
theorem dX2_whoGoes_62 : decode cX2_whoGoes 62 = .ok (.istore_n 1, 1) := by decide +kernel
theorem dX2_whoGoes_63 : decode cX2_whoGoes 63 = .ok (.iinc 3 1, 3) := by decide +kernel
theorem dX2_whoGoes_66 : decode cX2_whoGoes 66 = .ok (.goto (-59), 3) := by decide +kernel
theorem dX2_whoGoes_69 : decode cX2_whoGoes 69 = .ok (.iload_n 1, 1) := by decide +kernel
theorem dX2_whoGoes_70 : decode cX2_whoGoes 70 = .ok (.ireturn, 1) := by decide +kernel
theorem dX2_winner_0 : decode cX2_winner 0 = .ok (.bipush (-9), 2) := by decide +kernel
theorem dX2_winner_2 : decode cX2_winner 2 = .ok (.istore_n 1, 1) := by decide +kernel
theorem dX2_winner_3 : decode cX2_winner 3 = .ok (.iconst 0, 1) := by decide +kernel
theorem dX2_winner_4 : decode cX2_winner 4 = .ok (.istore_n 2, 1) := by decide +kernel
theorem dX2_winner_5 : decode cX2_winner 5 = .ok (.iload_n 2, 1) := by decide +kernel
theorem dX2_winner_6 : decode cX2_winner 6 = .ok (.aload_n 0, 1) := by decide +kernel
theorem dX2_winner_7 : decode cX2_winner 7 = .ok (.getfield 42, 3) := by decide +kernel
theorem dX2_winner_10 : decode cX2_winner 10 = .ok (.if_icmp .ge 19, 3) := by decide +kernel
theorem dX2_winner_13 : decode cX2_winner 13 = .ok (.aload_n 0, 1) := by decide +kernel
theorem dX2_winner_14 : decode cX2_winner 14 = .ok (.iload_n 2, 1) := by decide +kernel
theorem dX2_winner_15 : decode cX2_winner 15 = .ok (.invokevirtual 79, 3) := by decide +kernel
theorem dX2_winner_18 : decode cX2_winner 18 = .ok (.ifCond .eq 5, 3) := by decide +kernel
theorem dX2_winner_21 : decode cX2_winner 21 = .ok (.iload_n 2, 1) := by decide +kernel
theorem dX2_winner_22 : decode cX2_winner 22 = .ok (.istore_n 1, 1) := by decide +kernel
theorem dX2_winner_23 : decode cX2_winner 23 = .ok (.iinc 2 1, 3) := by decide +kernel
theorem dX2_winner_26 : decode cX2_winner 26 = .ok (.goto (-21), 3) := by decide +kernel
theorem dX2_winner_29 : decode cX2_winner 29 = .ok (.aload_n 0, 1) := by decide +kernel
theorem dX2_winner_30 : decode cX2_winner 30 = .ok (.invokevirtual 83, 3) := by decide +kernel
theorem dX2_winner_33 : decode cX2_winner 33 = .ok (.iconst 1, 1) := by decide +kernel
theorem dX2_winner_34 : decode cX2_winner 34 = .ok (.if_icmp .ne 7, 3) := by decide +kernel
theorem dX2_winner_37 : decode cX2_winner 37 = .ok (.iload_n 1, 1) := by decide +kernel
theorem dX2_winner_38 : decode cX2_winner 38 = .ok (.goto 5, 3) := by decide +kernel
theorem dX2_winner_41 : decode cX2_winner 41 = .ok (.bipush (-9), 2) := by decide +kernel
theorem dX2_winner_43 : decode cX2_winner 43 = .ok (.ireturn, 1) := by decide +kernel
theorem dX3_init_0 : decode cX3_init 0 = .ok (.aload_n 0, 1) := by decide +kernel
theorem dX3_init_1 : decode cX3_init 1 = .ok (.invokespecial 3, 3) := by decide +kernel
theorem dX3_init_4 : decode cX3_init 4 = .ok (.aload_n 0, 1) := by decide +kernel
theorem dX3_init_5 : decode cX3_init 5 = .ok (.iconst 0, 1) := by decide +kernel
theorem dX3_init_6 : decode cX3_init 6 = .ok (.putfield 11, 3) := by decide +kernel
theorem dX3_init_9 : decode cX3_init 9 = .ok (.aload_n 0, 1) := by decide +kernel
theorem dX3_init_10 : decode cX3_init 10 = .ok (.bipush 10, 2) := by decide +kernel
theorem dX3_init_12 : decode cX3_init 12 = .ok (.putfield 15, 3) := by decide +kernel
theorem dX3_init_15 : decode cX3_init 15 = .ok (.aload_n 0, 1) := by decide +kernel
theorem dX3_init_16 : decode cX3_init 16 = .ok (.iconst 1, 1) := by decide +kernel
theorem dX3_init_17 : decode cX3_init 17 = .ok (.putfield 18, 3) := by decide +kernel
theorem dX3_init_20 : decode cX3_init 20 = .ok (.return_, 1) := by decide +kernel
theorem dX3_become_0 : decode cX3_become 0 = .ok (.aload_n 0, 1) := by decide +kernel
theorem dX3_become_1 : decode cX3_become 1 = .ok (.aload_n 1, 1) := by decide +kernel
theorem dX3_become_2 : decode cX3_become 2 = .ok (.getfield 11, 3) := by decide +kernel
theorem dX3_become_5 : decode cX3_become 5 = .ok (.putfield 11, 3) := by decide +kernel
theorem dX3_become_8 : decode cX3_become 8 = .ok (.aload_n 0, 1) := by decide +kernel
theorem dX3_become_9 : decode cX3_become 9 = .ok (.aload_n 1, 1) := by decide +kernel
theorem dX3_become_10 : decode cX3_become 10 = .ok (.getfield 15, 3) := by decide +kernel
theorem dX3_become_13 : decode cX3_become 13 = .ok (.putfield 15, 3) := by decide +kernel
theorem dX3_become_16 : decode cX3_become 16 = .ok (.aload_n 0, 1) := by decide +kernel
theorem dX3_become_17 : decode cX3_become 17 = .ok (.aload_n 1, 1) := by decide +kernel
theorem dX3_become_18 : decode cX3_become 18 = .ok (.getfield 18, 3) := by decide +kernel
theorem dX3_become_21 : decode cX3_become 21 = .ok (.putfield 18, 3) := by decide +kernel
theorem dX3_become_24 : decode cX3_become 24 = .ok (.return_, 1) := by decide +kernel
theorem dX3_whyNot_0 : decode cX3_whyNot 0 = .ok (.iload_n 1, 1) := by decide +kernel
theorem dX3_whyNot_1 : decode cX3_whyNot 1 = .ok (.ifCond .lt 8, 3) := by decide +kernel
theorem dX3_whyNot_4 : decode cX3_whyNot 4 = .ok (.iload_n 1, 1) := by decide +kernel
theorem dX3_whyNot_5 : decode cX3_whyNot 5 = .ok (.iconst 5, 1) := by decide +kernel
theorem dX3_whyNot_6 : decode cX3_whyNot 6 = .ok (.if_icmp .lt 5, 3) := by decide +kernel
theorem dX3_whyNot_9 : decode cX3_whyNot 9 = .ok (.iconst 1, 1) := by decide +kernel
theorem dX3_whyNot_10 : decode cX3_whyNot 10 = .ok (.ireturn, 1) := by decide +kernel
theorem dX3_whyNot_11 : decode cX3_whyNot 11 = .ok (.iload_n 2, 1) := by decide +kernel
theorem dX3_whyNot_12 : decode cX3_whyNot 12 = .ok (.iconst 1, 1) := by decide +kernel
theorem dX3_whyNot_13 : decode cX3_whyNot 13 = .ok (.bipush 99, 2) := by decide +kernel
theorem dX3_whyNot_15 : decode cX3_whyNot 15 = .ok (.invokestatic 21, 3) := by decide +kernel
theorem dX3_whyNot_18 : decode cX3_whyNot 18 = .ok (.ireturn, 1) := by decide +kernel
theorem dX3_drawAgain_0 : decode cX3_drawAgain 0 = .ok (.aload_n 0, 1) := by decide +kernel
theorem dX3_drawAgain_1 : decode cX3_drawAgain 1 = .ok (.aload_n 0, 1) := by decide +kernel
theorem dX3_drawAgain_2 : decode cX3_drawAgain 2 = .ok (.getfield 18, 3) := by decide +kernel
theorem dX3_drawAgain_5 : decode cX3_drawAgain 5 = .ok (.ldc 25, 2) := by decide +kernel
theorem dX3_drawAgain_7 : decode cX3_drawAgain 7 = .ok (.imul, 1) := by decide +kernel
theorem dX3_drawAgain_8 : decode cX3_drawAgain 8 = .ok (.sipush 12345, 3) := by decide +kernel
theorem dX3_drawAgain_11 : decode cX3_drawAgain 11 = .ok (.iadd, 1) := by decide +kernel
theorem dX3_drawAgain_12 : decode cX3_drawAgain 12 = .ok (.putfield 18, 3) := by decide +kernel
theorem dX3_drawAgain_15 : decode cX3_drawAgain 15 = .ok (.aload_n 0, 1) := by decide +kernel
theorem dX3_drawAgain_16 : decode cX3_drawAgain 16 = .ok (.getfield 18, 3) := by decide +kernel
theorem dX3_drawAgain_19 : decode cX3_drawAgain 19 = .ok (.ldc 26, 2) := by decide +kernel
theorem dX3_drawAgain_21 : decode cX3_drawAgain 21 = .ok (.iand, 1) := by decide +kernel
theorem dX3_drawAgain_22 : decode cX3_drawAgain 22 = .ok (.ldc 27, 2) := by decide +kernel
theorem dX3_drawAgain_24 : decode cX3_drawAgain 24 = .ok (.idiv, 1) := by decide +kernel
theorem dX3_drawAgain_25 : decode cX3_drawAgain 25 = .ok (.bipush 100, 2) := by decide +kernel
theorem dX3_drawAgain_27 : decode cX3_drawAgain 27 = .ok (.irem, 1) := by decide +kernel
theorem dX3_drawAgain_28 : decode cX3_drawAgain 28 = .ok (.ireturn, 1) := by decide +kernel
theorem dX3_stopsIn_0 : decode cX3_stopsIn 0 = .ok (.aload_n 0, 1) := by decide +kernel
theorem dX3_stopsIn_1 : decode cX3_stopsIn 1 = .ok (.getfield 11, 3) := by decide +kernel
theorem dX3_stopsIn_4 : decode cX3_stopsIn 4 = .ok (.tableswitch 91 0 3 #[32, 46, 67, 89], 32) := by decide +kernel
theorem dX3_stopsIn_36 : decode cX3_stopsIn 36 = .ok (.iload_n 2, 1) := by decide +kernel
theorem dX3_stopsIn_37 : decode cX3_stopsIn 37 = .ok (.aload_n 0, 1) := by decide +kernel
theorem dX3_stopsIn_38 : decode cX3_stopsIn 38 = .ok (.getfield 15, 3) := by decide +kernel
theorem dX3_stopsIn_41 : decode cX3_stopsIn 41 = .ok (.if_icmp .ge 7, 3) := by decide +kernel
theorem dX3_stopsIn_44 : decode cX3_stopsIn 44 = .ok (.iconst 1, 1) := by decide +kernel
theorem dX3_stopsIn_45 : decode cX3_stopsIn 45 = .ok (.goto 4, 3) := by decide +kernel
theorem dX3_stopsIn_48 : decode cX3_stopsIn 48 = .ok (.iconst 0, 1) := by decide +kernel
theorem dX3_stopsIn_49 : decode cX3_stopsIn 49 = .ok (.ireturn, 1) := by decide +kernel
theorem dX3_stopsIn_50 : decode cX3_stopsIn 50 = .ok (.iload_n 1, 1) := by decide +kernel
theorem dX3_stopsIn_51 : decode cX3_stopsIn 51 = .ok (.bipush 8, 2) := by decide +kernel
theorem dX3_stopsIn_53 : decode cX3_stopsIn 53 = .ok (.irem, 1) := by decide +kernel
theorem dX3_stopsIn_54 : decode cX3_stopsIn 54 = .ok (.ifCond .ne 15, 3) := by decide +kernel
theorem dX3_stopsIn_57 : decode cX3_stopsIn 57 = .ok (.iload_n 2, 1) := by decide +kernel
theorem dX3_stopsIn_58 : decode cX3_stopsIn 58 = .ok (.aload_n 0, 1) := by decide +kernel
theorem dX3_stopsIn_59 : decode cX3_stopsIn 59 = .ok (.getfield 15, 3) := by decide +kernel
theorem dX3_stopsIn_62 : decode cX3_stopsIn 62 = .ok (.if_icmp .ge 7, 3) := by decide +kernel
theorem dX3_stopsIn_65 : decode cX3_stopsIn 65 = .ok (.iconst 1, 1) := by decide +kernel
theorem dX3_stopsIn_66 : decode cX3_stopsIn 66 = .ok (.goto 4, 3) := by decide +kernel
theorem dX3_stopsIn_69 : decode cX3_stopsIn 69 = .ok (.iconst 0, 1) := by decide +kernel
theorem dX3_stopsIn_70 : decode cX3_stopsIn 70 = .ok (.ireturn, 1) := by decide +kernel
theorem dX3_stopsIn_71 : decode cX3_stopsIn 71 = .ok (.iload_n 1, 1) := by decide +kernel
theorem dX3_stopsIn_72 : decode cX3_stopsIn 72 = .ok (.aload_n 0, 1) := by decide +kernel
theorem dX3_stopsIn_73 : decode cX3_stopsIn 73 = .ok (.getfield 15, 3) := by decide +kernel
theorem dX3_stopsIn_76 : decode cX3_stopsIn 76 = .ok (.if_icmp .lt 15, 3) := by decide +kernel
theorem dX3_stopsIn_79 : decode cX3_stopsIn 79 = .ok (.iload_n 2, 1) := by decide +kernel
theorem dX3_stopsIn_80 : decode cX3_stopsIn 80 = .ok (.aload_n 0, 1) := by decide +kernel
theorem dX3_stopsIn_81 : decode cX3_stopsIn 81 = .ok (.getfield 15, 3) := by decide +kernel
theorem dX3_stopsIn_84 : decode cX3_stopsIn 84 = .ok (.if_icmp .ge 7, 3) := by decide +kernel
theorem dX3_stopsIn_87 : decode cX3_stopsIn 87 = .ok (.iconst 1, 1) := by decide +kernel
theorem dX3_stopsIn_88 : decode cX3_stopsIn 88 = .ok (.goto 4, 3) := by decide +kernel
theorem dX3_stopsIn_91 : decode cX3_stopsIn 91 = .ok (.iconst 0, 1) := by decide +kernel
theorem dX3_stopsIn_92 : decode cX3_stopsIn 92 = .ok (.ireturn, 1) := by decide +kernel
theorem dX3_stopsIn_93 : decode cX3_stopsIn 93 = .ok (.iload_n 3, 1) := by decide +kernel
theorem dX3_stopsIn_94 : decode cX3_stopsIn 94 = .ok (.ireturn, 1) := by decide +kernel
theorem dX3_stopsIn_95 : decode cX3_stopsIn 95 = .ok (.iload_n 1, 1) := by decide +kernel
theorem dX3_stopsIn_96 : decode cX3_stopsIn 96 = .ok (.aload_n 0, 1) := by decide +kernel
theorem dX3_stopsIn_97 : decode cX3_stopsIn 97 = .ok (.getfield 15, 3) := by decide +kernel
theorem dX3_stopsIn_100 : decode cX3_stopsIn 100 = .ok (.if_icmp .ne 7, 3) := by decide +kernel
theorem dX3_stopsIn_103 : decode cX3_stopsIn 103 = .ok (.iconst 1, 1) := by decide +kernel
theorem dX3_stopsIn_104 : decode cX3_stopsIn 104 = .ok (.goto 4, 3) := by decide +kernel
theorem dX3_stopsIn_107 : decode cX3_stopsIn 107 = .ok (.iconst 0, 1) := by decide +kernel
theorem dX3_stopsIn_108 : decode cX3_stopsIn 108 = .ok (.ireturn, 1) := by decide +kernel
theorem dX3_couldStop_0 : decode cX3_couldStop 0 = .ok (.iload_n 1, 1) := by decide +kernel
theorem dX3_couldStop_1 : decode cX3_couldStop 1 = .ok (.tableswitch 76 0 3 #[31, 33, 53, 74], 31) := by decide +kernel
theorem dX3_couldStop_32 : decode cX3_couldStop 32 = .ok (.iconst 1, 1) := by decide +kernel
theorem dX3_couldStop_33 : decode cX3_couldStop 33 = .ok (.ireturn, 1) := by decide +kernel
theorem dX3_couldStop_34 : decode cX3_couldStop 34 = .ok (.iload_n 2, 1) := by decide +kernel
theorem dX3_couldStop_35 : decode cX3_couldStop 35 = .ok (.bipush 8, 2) := by decide +kernel
theorem dX3_couldStop_37 : decode cX3_couldStop 37 = .ok (.irem, 1) := by decide +kernel
theorem dX3_couldStop_38 : decode cX3_couldStop 38 = .ok (.ifCond .eq 10, 3) := by decide +kernel
theorem dX3_couldStop_41 : decode cX3_couldStop 41 = .ok (.iload_n 2, 1) := by decide +kernel
theorem dX3_couldStop_42 : decode cX3_couldStop 42 = .ok (.sipush 300, 3) := by decide +kernel
theorem dX3_couldStop_45 : decode cX3_couldStop 45 = .ok (.if_icmp .ne 7, 3) := by decide +kernel
theorem dX3_couldStop_48 : decode cX3_couldStop 48 = .ok (.iconst 1, 1) := by decide +kernel
theorem dX3_couldStop_49 : decode cX3_couldStop 49 = .ok (.goto 4, 3) := by decide +kernel
theorem dX3_couldStop_52 : decode cX3_couldStop 52 = .ok (.iconst 0, 1) := by decide +kernel
theorem dX3_couldStop_53 : decode cX3_couldStop 53 = .ok (.ireturn, 1) := by decide +kernel
theorem dX3_couldStop_54 : decode cX3_couldStop 54 = .ok (.iload_n 2, 1) := by decide +kernel
theorem dX3_couldStop_55 : decode cX3_couldStop 55 = .ok (.aload_n 0, 1) := by decide +kernel
theorem dX3_couldStop_56 : decode cX3_couldStop 56 = .ok (.getfield 15, 3) := by decide +kernel
theorem dX3_couldStop_59 : decode cX3_couldStop 59 = .ok (.if_icmp .ge 10, 3) := by decide +kernel
theorem dX3_couldStop_62 : decode cX3_couldStop 62 = .ok (.iload_n 2, 1) := by decide +kernel
theorem dX3_couldStop_63 : decode cX3_couldStop 63 = .ok (.sipush 300, 3) := by decide +kernel
theorem dX3_couldStop_66 : decode cX3_couldStop 66 = .ok (.if_icmp .ne 7, 3) := by decide +kernel
theorem dX3_couldStop_69 : decode cX3_couldStop 69 = .ok (.iconst 1, 1) := by decide +kernel
theorem dX3_couldStop_70 : decode cX3_couldStop 70 = .ok (.goto 4, 3) := by decide +kernel
theorem dX3_couldStop_73 : decode cX3_couldStop 73 = .ok (.iconst 0, 1) := by decide +kernel
theorem dX3_couldStop_74 : decode cX3_couldStop 74 = .ok (.ireturn, 1) := by decide +kernel
theorem dX3_couldStop_75 : decode cX3_couldStop 75 = .ok (.iconst 1, 1) := by decide +kernel
theorem dX3_couldStop_76 : decode cX3_couldStop 76 = .ok (.ireturn, 1) := by decide +kernel
theorem dX3_couldStop_77 : decode cX3_couldStop 77 = .ok (.iload_n 2, 1) := by decide +kernel
theorem dX3_couldStop_78 : decode cX3_couldStop 78 = .ok (.aload_n 0, 1) := by decide +kernel
theorem dX3_couldStop_79 : decode cX3_couldStop 79 = .ok (.getfield 15, 3) := by decide +kernel
theorem dX3_couldStop_82 : decode cX3_couldStop 82 = .ok (.if_icmp .ne 7, 3) := by decide +kernel
theorem dX3_couldStop_85 : decode cX3_couldStop 85 = .ok (.iconst 1, 1) := by decide +kernel
theorem dX3_couldStop_86 : decode cX3_couldStop 86 = .ok (.goto 4, 3) := by decide +kernel
theorem dX3_couldStop_89 : decode cX3_couldStop 89 = .ok (.iconst 0, 1) := by decide +kernel
theorem dX3_couldStop_90 : decode cX3_couldStop 90 = .ok (.ireturn, 1) := by decide +kernel
theorem dX4_init_0 : decode cX4_init 0 = .ok (.aload_n 0, 1) := by decide +kernel
theorem dX4_init_1 : decode cX4_init 1 = .ok (.invokespecial 3, 3) := by decide +kernel
theorem dX4_init_4 : decode cX4_init 4 = .ok (.aload_n 0, 1) := by decide +kernel
theorem dX4_init_5 : decode cX4_init 5 = .ok (.bipush 24, 2) := by decide +kernel
theorem dX4_init_7 : decode cX4_init 7 = .ok (.putfield 9, 3) := by decide +kernel
theorem dX4_init_10 : decode cX4_init 10 = .ok (.aload_n 0, 1) := by decide +kernel
theorem dX4_init_11 : decode cX4_init 11 = .ok (.iconst 0, 1) := by decide +kernel
theorem dX4_init_12 : decode cX4_init 12 = .ok (.putfield 15, 3) := by decide +kernel
theorem dX4_init_15 : decode cX4_init 15 = .ok (.aload_n 0, 1) := by decide +kernel
theorem dX4_init_16 : decode cX4_init 16 = .ok (.bipush 11, 2) := by decide +kernel
theorem dX4_init_18 : decode cX4_init 18 = .ok (.newarray .int, 2) := by decide +kernel
theorem dX4_init_20 : decode cX4_init 20 = .ok (.putfield 18, 3) := by decide +kernel
theorem dX4_init_23 : decode cX4_init 23 = .ok (.aload_n 0, 1) := by decide +kernel
theorem dX4_init_24 : decode cX4_init 24 = .ok (.bipush 60, 2) := by decide +kernel
theorem dX4_init_26 : decode cX4_init 26 = .ok (.newarray .boolean, 2) := by decide +kernel
theorem dX4_init_28 : decode cX4_init 28 = .ok (.putfield 22, 3) := by decide +kernel
theorem dX4_init_31 : decode cX4_init 31 = .ok (.return_, 1) := by decide +kernel
theorem dX4_become_0 : decode cX4_become 0 = .ok (.aload_n 0, 1) := by decide +kernel
theorem dX4_become_1 : decode cX4_become 1 = .ok (.aload_n 1, 1) := by decide +kernel
theorem dX4_become_2 : decode cX4_become 2 = .ok (.getfield 9, 3) := by decide +kernel
theorem dX4_become_5 : decode cX4_become 5 = .ok (.putfield 9, 3) := by decide +kernel
theorem dX4_become_8 : decode cX4_become 8 = .ok (.aload_n 0, 1) := by decide +kernel
theorem dX4_become_9 : decode cX4_become 9 = .ok (.aload_n 1, 1) := by decide +kernel
theorem dX4_become_10 : decode cX4_become 10 = .ok (.getfield 15, 3) := by decide +kernel
theorem dX4_become_13 : decode cX4_become 13 = .ok (.putfield 15, 3) := by decide +kernel
theorem dX4_become_16 : decode cX4_become 16 = .ok (.aload_n 1, 1) := by decide +kernel
theorem dX4_become_17 : decode cX4_become 17 = .ok (.getfield 18, 3) := by decide +kernel
theorem dX4_become_20 : decode cX4_become 20 = .ok (.iconst 0, 1) := by decide +kernel
theorem dX4_become_21 : decode cX4_become 21 = .ok (.aload_n 0, 1) := by decide +kernel
theorem dX4_become_22 : decode cX4_become 22 = .ok (.getfield 18, 3) := by decide +kernel
theorem dX4_become_25 : decode cX4_become 25 = .ok (.iconst 0, 1) := by decide +kernel
theorem dX4_become_26 : decode cX4_become 26 = .ok (.bipush 11, 2) := by decide +kernel
theorem dX4_become_28 : decode cX4_become 28 = .ok (.invokestatic 26, 3) := by decide +kernel
theorem dX4_become_31 : decode cX4_become 31 = .ok (.aload_n 1, 1) := by decide +kernel
theorem dX4_become_32 : decode cX4_become 32 = .ok (.getfield 22, 3) := by decide +kernel
theorem dX4_become_35 : decode cX4_become 35 = .ok (.iconst 0, 1) := by decide +kernel
theorem dX4_become_36 : decode cX4_become 36 = .ok (.aload_n 0, 1) := by decide +kernel
theorem dX4_become_37 : decode cX4_become 37 = .ok (.getfield 22, 3) := by decide +kernel
theorem dX4_become_40 : decode cX4_become 40 = .ok (.iconst 0, 1) := by decide +kernel
theorem dX4_become_41 : decode cX4_become 41 = .ok (.bipush 60, 2) := by decide +kernel
theorem dX4_become_43 : decode cX4_become 43 = .ok (.invokestatic 26, 3) := by decide +kernel
theorem dX4_become_46 : decode cX4_become 46 = .ok (.return_, 1) := by decide +kernel
theorem dX4_isPlace_0 : decode cX4_isPlace 0 = .ok (.iload_n 1, 1) := by decide +kernel
theorem dX4_isPlace_1 : decode cX4_isPlace 1 = .ok (.ifCond .lt 15, 3) := by decide +kernel
theorem dX4_isPlace_4 : decode cX4_isPlace 4 = .ok (.iload_n 1, 1) := by decide +kernel
theorem dX4_isPlace_5 : decode cX4_isPlace 5 = .ok (.aload_n 0, 1) := by decide +kernel
theorem dX4_isPlace_6 : decode cX4_isPlace 6 = .ok (.getfield 9, 3) := by decide +kernel
theorem dX4_isPlace_9 : decode cX4_isPlace 9 = .ok (.if_icmp .ge 7, 3) := by decide +kernel
theorem dX4_isPlace_12 : decode cX4_isPlace 12 = .ok (.iconst 1, 1) := by decide +kernel
theorem dX4_isPlace_13 : decode cX4_isPlace 13 = .ok (.goto 4, 3) := by decide +kernel
theorem dX4_isPlace_16 : decode cX4_isPlace 16 = .ok (.iconst 0, 1) := by decide +kernel
theorem dX4_isPlace_17 : decode cX4_isPlace 17 = .ok (.ireturn, 1) := by decide +kernel
theorem dX4_hasChair_0 : decode cX4_hasChair 0 = .ok (.iload_n 1, 1) := by decide +kernel
theorem dX4_hasChair_1 : decode cX4_hasChair 1 = .ok (.ifCond .lt 22, 3) := by decide +kernel
theorem dX4_hasChair_4 : decode cX4_hasChair 4 = .ok (.iload_n 1, 1) := by decide +kernel
theorem dX4_hasChair_5 : decode cX4_hasChair 5 = .ok (.bipush 60, 2) := by decide +kernel
theorem dX4_hasChair_7 : decode cX4_hasChair 7 = .ok (.if_icmp .ge 16, 3) := by decide +kernel
theorem dX4_hasChair_10 : decode cX4_hasChair 10 = .ok (.aload_n 0, 1) := by decide +kernel
theorem dX4_hasChair_11 : decode cX4_hasChair 11 = .ok (.getfield 22, 3) := by decide +kernel
theorem dX4_hasChair_14 : decode cX4_hasChair 14 = .ok (.iload_n 1, 1) := by decide +kernel
theorem dX4_hasChair_15 : decode cX4_hasChair 15 = .ok (.baload, 1) := by decide +kernel
theorem dX4_hasChair_16 : decode cX4_hasChair 16 = .ok (.ifCond .eq 7, 3) := by decide +kernel
theorem dX4_hasChair_19 : decode cX4_hasChair 19 = .ok (.iconst 1, 1) := by decide +kernel
theorem dX4_hasChair_20 : decode cX4_hasChair 20 = .ok (.goto 4, 3) := by decide +kernel
theorem dX4_hasChair_23 : decode cX4_hasChair 23 = .ok (.iconst 0, 1) := by decide +kernel
theorem dX4_hasChair_24 : decode cX4_hasChair 24 = .ok (.ireturn, 1) := by decide +kernel
theorem dX4_placeOfChair_0 : decode cX4_placeOfChair 0 = .ok (.iload_n 1, 1) := by decide +kernel
theorem dX4_placeOfChair_1 : decode cX4_placeOfChair 1 = .ok (.ifCond .lt 26, 3) := by decide +kernel
theorem dX4_placeOfChair_4 : decode cX4_placeOfChair 4 = .ok (.iload_n 1, 1) := by decide +kernel
theorem dX4_placeOfChair_5 : decode cX4_placeOfChair 5 = .ok (.aload_n 0, 1) := by decide +kernel
theorem dX4_placeOfChair_6 : decode cX4_placeOfChair 6 = .ok (.getfield 15, 3) := by decide +kernel
theorem dX4_placeOfChair_9 : decode cX4_placeOfChair 9 = .ok (.if_icmp .ge 18, 3) := by decide +kernel
theorem dX4_placeOfChair_12 : decode cX4_placeOfChair 12 = .ok (.iload_n 1, 1) := by decide +kernel
theorem dX4_placeOfChair_13 : decode cX4_placeOfChair 13 = .ok (.bipush 11, 2) := by decide +kernel
theorem dX4_placeOfChair_15 : decode cX4_placeOfChair 15 = .ok (.if_icmp .ge 12, 3) := by decide +kernel
theorem dX4_placeOfChair_18 : decode cX4_placeOfChair 18 = .ok (.aload_n 0, 1) := by decide +kernel
theorem dX4_placeOfChair_19 : decode cX4_placeOfChair 19 = .ok (.getfield 18, 3) := by decide +kernel
theorem dX4_placeOfChair_22 : decode cX4_placeOfChair 22 = .ok (.iload_n 1, 1) := by decide +kernel
theorem dX4_placeOfChair_23 : decode cX4_placeOfChair 23 = .ok (.iaload, 1) := by decide +kernel
theorem dX4_placeOfChair_24 : decode cX4_placeOfChair 24 = .ok (.goto 5, 3) := by decide +kernel
theorem dX4_placeOfChair_27 : decode cX4_placeOfChair 27 = .ok (.bipush (-9), 2) := by decide +kernel
theorem dX4_placeOfChair_29 : decode cX4_placeOfChair 29 = .ok (.ireturn, 1) := by decide +kernel
theorem dX4_far_0 : decode cX4_far 0 = .ok (.iload_n 1, 1) := by decide +kernel
theorem dX4_far_1 : decode cX4_far 1 = .ok (.iload_n 2, 1) := by decide +kernel
theorem dX4_far_2 : decode cX4_far 2 = .ok (.if_icmp .ge 9, 3) := by decide +kernel
theorem dX4_far_5 : decode cX4_far 5 = .ok (.iload_n 2, 1) := by decide +kernel
theorem dX4_far_6 : decode cX4_far 6 = .ok (.iload_n 1, 1) := by decide +kernel
theorem dX4_far_7 : decode cX4_far 7 = .ok (.isub, 1) := by decide +kernel
theorem dX4_far_8 : decode cX4_far 8 = .ok (.goto 6, 3) := by decide +kernel
theorem dX4_far_11 : decode cX4_far 11 = .ok (.iload_n 1, 1) := by decide +kernel
theorem dX4_far_12 : decode cX4_far 12 = .ok (.iload_n 2, 1) := by decide +kernel
theorem dX4_far_13 : decode cX4_far 13 = .ok (.isub, 1) := by decide +kernel
theorem dX4_far_14 : decode cX4_far 14 = .ok (.istore_n 3, 1) := by decide +kernel
theorem dX4_far_15 : decode cX4_far 15 = .ok (.iload_n 3, 1) := by decide +kernel
theorem dX4_far_16 : decode cX4_far 16 = .ok (.aload_n 0, 1) := by decide +kernel
theorem dX4_far_17 : decode cX4_far 17 = .ok (.getfield 9, 3) := by decide +kernel
theorem dX4_far_20 : decode cX4_far 20 = .ok (.iload_n 3, 1) := by decide +kernel
theorem dX4_far_21 : decode cX4_far 21 = .ok (.isub, 1) := by decide +kernel
theorem dX4_far_22 : decode cX4_far 22 = .ok (.if_icmp .le 12, 3) := by decide +kernel
theorem dX4_far_25 : decode cX4_far 25 = .ok (.aload_n 0, 1) := by decide +kernel
theorem dX4_far_26 : decode cX4_far 26 = .ok (.getfield 9, 3) := by decide +kernel
theorem dX4_far_29 : decode cX4_far 29 = .ok (.iload_n 3, 1) := by decide +kernel
theorem dX4_far_30 : decode cX4_far 30 = .ok (.isub, 1) := by decide +kernel
theorem dX4_far_31 : decode cX4_far 31 = .ok (.goto 4, 3) := by decide +kernel
theorem dX4_far_34 : decode cX4_far 34 = .ok (.iload_n 3, 1) := by decide +kernel
theorem dX4_far_35 : decode cX4_far 35 = .ok (.ireturn, 1) := by decide +kernel
theorem dX4_farFromChairs_0 : decode cX4_farFromChairs 0 = .ok (.bipush 60, 2) := by decide +kernel
theorem dX4_farFromChairs_2 : decode cX4_farFromChairs 2 = .ok (.istore_n 2, 1) := by decide +kernel
theorem dX4_farFromChairs_3 : decode cX4_farFromChairs 3 = .ok (.iconst 0, 1) := by decide +kernel
theorem dX4_farFromChairs_4 : decode cX4_farFromChairs 4 = .ok (.istore_n 3, 1) := by decide +kernel
theorem dX4_farFromChairs_5 : decode cX4_farFromChairs 5 = .ok (.iload_n 3, 1) := by decide +kernel
theorem dX4_farFromChairs_6 : decode cX4_farFromChairs 6 = .ok (.aload_n 0, 1) := by decide +kernel
theorem dX4_farFromChairs_7 : decode cX4_farFromChairs 7 = .ok (.getfield 15, 3) := by decide +kernel
theorem dX4_farFromChairs_10 : decode cX4_farFromChairs 10 = .ok (.if_icmp .ge 30, 3) := by decide +kernel
theorem dX4_farFromChairs_13 : decode cX4_farFromChairs 13 = .ok (.aload_n 0, 1) := by decide +kernel
theorem dX4_farFromChairs_14 : decode cX4_farFromChairs 14 = .ok (.iload_n 1, 1) := by decide +kernel
theorem dX4_farFromChairs_15 : decode cX4_farFromChairs 15 = .ok (.aload_n 0, 1) := by decide +kernel
theorem dX4_farFromChairs_16 : decode cX4_farFromChairs 16 = .ok (.iload_n 3, 1) := by decide +kernel
theorem dX4_farFromChairs_17 : decode cX4_farFromChairs 17 = .ok (.invokevirtual 32, 3) := by decide +kernel
theorem dX4_farFromChairs_20 : decode cX4_farFromChairs 20 = .ok (.invokevirtual 36, 3) := by decide +kernel
theorem dX4_farFromChairs_23 : decode cX4_farFromChairs 23 = .ok (.istore 4, 2) := by decide +kernel
theorem dX4_farFromChairs_25 : decode cX4_farFromChairs 25 = .ok (.iload 4, 2) := by decide +kernel
theorem dX4_farFromChairs_27 : decode cX4_farFromChairs 27 = .ok (.iload_n 2, 1) := by decide +kernel
theorem dX4_farFromChairs_28 : decode cX4_farFromChairs 28 = .ok (.if_icmp .ge 6, 3) := by decide +kernel
theorem dX4_farFromChairs_31 : decode cX4_farFromChairs 31 = .ok (.iload 4, 2) := by decide +kernel
theorem dX4_farFromChairs_33 : decode cX4_farFromChairs 33 = .ok (.istore_n 2, 1) := by decide +kernel
theorem dX4_farFromChairs_34 : decode cX4_farFromChairs 34 = .ok (.iinc 3 1, 3) := by decide +kernel
theorem dX4_farFromChairs_37 : decode cX4_farFromChairs 37 = .ok (.goto (-32), 3) := by decide +kernel
theorem dX4_farFromChairs_40 : decode cX4_farFromChairs 40 = .ok (.iload_n 2, 1) := by decide +kernel
theorem dX4_farFromChairs_41 : decode cX4_farFromChairs 41 = .ok (.ireturn, 1) := by decide +kernel
theorem dX4_putChair_0 : decode cX4_putChair 0 = .ok (.aload_n 0, 1) := by decide +kernel
theorem dX4_putChair_1 : decode cX4_putChair 1 = .ok (.getfield 15, 3) := by decide +kernel
theorem dX4_putChair_4 : decode cX4_putChair 4 = .ok (.bipush 11, 2) := by decide +kernel
theorem dX4_putChair_6 : decode cX4_putChair 6 = .ok (.if_icmp .ge 13, 3) := by decide +kernel
theorem dX4_putChair_9 : decode cX4_putChair 9 = .ok (.iload_n 1, 1) := by decide +kernel
theorem dX4_putChair_10 : decode cX4_putChair 10 = .ok (.ifCond .lt 9, 3) := by decide +kernel
theorem dX4_putChair_13 : decode cX4_putChair 13 = .ok (.iload_n 1, 1) := by decide +kernel
theorem dX4_putChair_14 : decode cX4_putChair 14 = .ok (.bipush 60, 2) := by decide +kernel
theorem dX4_putChair_16 : decode cX4_putChair 16 = .ok (.if_icmp .lt 4, 3) := by decide +kernel
theorem dX4_putChair_19 : decode cX4_putChair 19 = .ok (.return_, 1) := by decide +kernel
theorem dX4_putChair_20 : decode cX4_putChair 20 = .ok (.aload_n 0, 1) := by decide +kernel
theorem dX4_putChair_21 : decode cX4_putChair 21 = .ok (.getfield 15, 3) := by decide +kernel
theorem dX4_putChair_24 : decode cX4_putChair 24 = .ok (.istore_n 2, 1) := by decide +kernel
theorem dX4_putChair_25 : decode cX4_putChair 25 = .ok (.iload_n 2, 1) := by decide +kernel
theorem dX4_putChair_26 : decode cX4_putChair 26 = .ok (.ifCond .le 35, 3) := by decide +kernel
theorem dX4_putChair_29 : decode cX4_putChair 29 = .ok (.aload_n 0, 1) := by decide +kernel
theorem dX4_putChair_30 : decode cX4_putChair 30 = .ok (.getfield 18, 3) := by decide +kernel
theorem dX4_putChair_33 : decode cX4_putChair 33 = .ok (.iload_n 2, 1) := by decide +kernel
theorem dX4_putChair_34 : decode cX4_putChair 34 = .ok (.iconst 1, 1) := by decide +kernel
theorem dX4_putChair_35 : decode cX4_putChair 35 = .ok (.isub, 1) := by decide +kernel
theorem dX4_putChair_36 : decode cX4_putChair 36 = .ok (.iaload, 1) := by decide +kernel
theorem dX4_putChair_37 : decode cX4_putChair 37 = .ok (.iload_n 1, 1) := by decide +kernel
theorem dX4_putChair_38 : decode cX4_putChair 38 = .ok (.if_icmp .le 23, 3) := by decide +kernel
theorem dX4_putChair_41 : decode cX4_putChair 41 = .ok (.aload_n 0, 1) := by decide +kernel
theorem dX4_putChair_42 : decode cX4_putChair 42 = .ok (.getfield 18, 3) := by decide +kernel
theorem dX4_putChair_45 : decode cX4_putChair 45 = .ok (.iload_n 2, 1) := by decide +kernel
theorem dX4_putChair_46 : decode cX4_putChair 46 = .ok (.aload_n 0, 1) := by decide +kernel
theorem dX4_putChair_47 : decode cX4_putChair 47 = .ok (.getfield 18, 3) := by decide +kernel
theorem dX4_putChair_50 : decode cX4_putChair 50 = .ok (.iload_n 2, 1) := by decide +kernel
theorem dX4_putChair_51 : decode cX4_putChair 51 = .ok (.iconst 1, 1) := by decide +kernel
theorem dX4_putChair_52 : decode cX4_putChair 52 = .ok (.isub, 1) := by decide +kernel
theorem dX4_putChair_53 : decode cX4_putChair 53 = .ok (.iaload, 1) := by decide +kernel
theorem dX4_putChair_54 : decode cX4_putChair 54 = .ok (.iastore, 1) := by decide +kernel
theorem dX4_putChair_55 : decode cX4_putChair 55 = .ok (.iinc 2 (-1), 3) := by decide +kernel
theorem dX4_putChair_58 : decode cX4_putChair 58 = .ok (.goto (-33), 3) := by decide +kernel
theorem dX4_putChair_61 : decode cX4_putChair 61 = .ok (.aload_n 0, 1) := by decide +kernel
theorem dX4_putChair_62 : decode cX4_putChair 62 = .ok (.getfield 18, 3) := by decide +kernel
theorem dX4_putChair_65 : decode cX4_putChair 65 = .ok (.iload_n 2, 1) := by decide +kernel
theorem dX4_putChair_66 : decode cX4_putChair 66 = .ok (.iload_n 1, 1) := by decide +kernel
theorem dX4_putChair_67 : decode cX4_putChair 67 = .ok (.iastore, 1) := by decide +kernel
theorem dX4_putChair_68 : decode cX4_putChair 68 = .ok (.aload_n 0, 1) := by decide +kernel
theorem dX4_putChair_69 : decode cX4_putChair 69 = .ok (.getfield 22, 3) := by decide +kernel
theorem dX4_putChair_72 : decode cX4_putChair 72 = .ok (.iload_n 1, 1) := by decide +kernel
theorem dX4_putChair_73 : decode cX4_putChair 73 = .ok (.iconst 1, 1) := by decide +kernel
theorem dX4_putChair_74 : decode cX4_putChair 74 = .ok (.bastore, 1) := by decide +kernel
theorem dX4_putChair_75 : decode cX4_putChair 75 = .ok (.aload_n 0, 1) := by decide +kernel
theorem dX4_putChair_76 : decode cX4_putChair 76 = .ok (.dup, 1) := by decide +kernel
theorem dX4_putChair_77 : decode cX4_putChair 77 = .ok (.getfield 15, 3) := by decide +kernel
theorem dX4_putChair_80 : decode cX4_putChair 80 = .ok (.iconst 1, 1) := by decide +kernel
theorem dX4_putChair_81 : decode cX4_putChair 81 = .ok (.iadd, 1) := by decide +kernel
theorem dX4_putChair_82 : decode cX4_putChair 82 = .ok (.putfield 15, 3) := by decide +kernel
theorem dX4_putChair_85 : decode cX4_putChair 85 = .ok (.return_, 1) := by decide +kernel
theorem dX4_takeChair_0 : decode cX4_takeChair 0 = .ok (.aload_n 0, 1) := by decide +kernel
theorem dX4_takeChair_1 : decode cX4_takeChair 1 = .ok (.iload_n 1, 1) := by decide +kernel
theorem dX4_takeChair_2 : decode cX4_takeChair 2 = .ok (.invokevirtual 40, 3) := by decide +kernel
theorem dX4_takeChair_5 : decode cX4_takeChair 5 = .ok (.ifCond .ne 4, 3) := by decide +kernel
theorem dX4_takeChair_8 : decode cX4_takeChair 8 = .ok (.return_, 1) := by decide +kernel
theorem dX4_takeChair_9 : decode cX4_takeChair 9 = .ok (.iconst 0, 1) := by decide +kernel
theorem dX4_takeChair_10 : decode cX4_takeChair 10 = .ok (.istore_n 2, 1) := by decide +kernel
theorem dX4_takeChair_11 : decode cX4_takeChair 11 = .ok (.iconst 0, 1) := by decide +kernel
theorem dX4_takeChair_12 : decode cX4_takeChair 12 = .ok (.istore_n 3, 1) := by decide +kernel
theorem dX4_takeChair_13 : decode cX4_takeChair 13 = .ok (.iload_n 3, 1) := by decide +kernel
theorem dX4_takeChair_14 : decode cX4_takeChair 14 = .ok (.aload_n 0, 1) := by decide +kernel
theorem dX4_takeChair_15 : decode cX4_takeChair 15 = .ok (.getfield 15, 3) := by decide +kernel
theorem dX4_takeChair_18 : decode cX4_takeChair 18 = .ok (.if_icmp .ge 40, 3) := by decide +kernel
theorem dX4_takeChair_21 : decode cX4_takeChair 21 = .ok (.iload_n 3, 1) := by decide +kernel
theorem dX4_takeChair_22 : decode cX4_takeChair 22 = .ok (.bipush 11, 2) := by decide +kernel
theorem dX4_takeChair_24 : decode cX4_takeChair 24 = .ok (.if_icmp .ge 34, 3) := by decide +kernel
theorem dX4_takeChair_27 : decode cX4_takeChair 27 = .ok (.aload_n 0, 1) := by decide +kernel
theorem dX4_takeChair_28 : decode cX4_takeChair 28 = .ok (.getfield 18, 3) := by decide +kernel
theorem dX4_takeChair_31 : decode cX4_takeChair 31 = .ok (.iload_n 3, 1) := by decide +kernel
theorem dX4_takeChair_32 : decode cX4_takeChair 32 = .ok (.iaload, 1) := by decide +kernel
theorem dX4_takeChair_33 : decode cX4_takeChair 33 = .ok (.iload_n 1, 1) := by decide +kernel
theorem dX4_takeChair_34 : decode cX4_takeChair 34 = .ok (.if_icmp .eq 18, 3) := by decide +kernel
theorem dX4_takeChair_37 : decode cX4_takeChair 37 = .ok (.aload_n 0, 1) := by decide +kernel
theorem dX4_takeChair_38 : decode cX4_takeChair 38 = .ok (.getfield 18, 3) := by decide +kernel
theorem dX4_takeChair_41 : decode cX4_takeChair 41 = .ok (.iload_n 2, 1) := by decide +kernel
theorem dX4_takeChair_42 : decode cX4_takeChair 42 = .ok (.aload_n 0, 1) := by decide +kernel
theorem dX4_takeChair_43 : decode cX4_takeChair 43 = .ok (.getfield 18, 3) := by decide +kernel
theorem dX4_takeChair_46 : decode cX4_takeChair 46 = .ok (.iload_n 3, 1) := by decide +kernel
theorem dX4_takeChair_47 : decode cX4_takeChair 47 = .ok (.iaload, 1) := by decide +kernel
theorem dX4_takeChair_48 : decode cX4_takeChair 48 = .ok (.iastore, 1) := by decide +kernel
theorem dX4_takeChair_49 : decode cX4_takeChair 49 = .ok (.iinc 2 1, 3) := by decide +kernel
theorem dX4_takeChair_52 : decode cX4_takeChair 52 = .ok (.iinc 3 1, 3) := by decide +kernel
theorem dX4_takeChair_55 : decode cX4_takeChair 55 = .ok (.goto (-42), 3) := by decide +kernel
theorem dX4_takeChair_58 : decode cX4_takeChair 58 = .ok (.aload_n 0, 1) := by decide +kernel
theorem dX4_takeChair_59 : decode cX4_takeChair 59 = .ok (.iload_n 2, 1) := by decide +kernel
theorem dX4_takeChair_60 : decode cX4_takeChair 60 = .ok (.putfield 15, 3) := by decide +kernel
theorem dX4_takeChair_63 : decode cX4_takeChair 63 = .ok (.aload_n 0, 1) := by decide +kernel
theorem dX4_takeChair_64 : decode cX4_takeChair 64 = .ok (.getfield 22, 3) := by decide +kernel
theorem dX4_takeChair_67 : decode cX4_takeChair 67 = .ok (.iload_n 1, 1) := by decide +kernel
theorem dX4_takeChair_68 : decode cX4_takeChair 68 = .ok (.iconst 0, 1) := by decide +kernel
theorem dX4_takeChair_69 : decode cX4_takeChair 69 = .ok (.bastore, 1) := by decide +kernel
theorem dX4_takeChair_70 : decode cX4_takeChair 70 = .ok (.return_, 1) := by decide +kernel
theorem dX4_leavingPlace_0 : decode cX4_leavingPlace 0 = .ok (.iload_n 1, 1) := by decide +kernel
theorem dX4_leavingPlace_1 : decode cX4_leavingPlace 1 = .ok (.ifCond .ne 9, 3) := by decide +kernel
theorem dX4_leavingPlace_4 : decode cX4_leavingPlace 4 = .ok (.aload_n 0, 1) := by decide +kernel
theorem dX4_leavingPlace_5 : decode cX4_leavingPlace 5 = .ok (.iconst 0, 1) := by decide +kernel
theorem dX4_leavingPlace_6 : decode cX4_leavingPlace 6 = .ok (.invokevirtual 32, 3) := by decide +kernel
theorem dX4_leavingPlace_9 : decode cX4_leavingPlace 9 = .ok (.ireturn, 1) := by decide +kernel
theorem dX4_leavingPlace_10 : decode cX4_leavingPlace 10 = .ok (.aload_n 0, 1) := by decide +kernel
theorem dX4_leavingPlace_11 : decode cX4_leavingPlace 11 = .ok (.iload_n 1, 1) := by decide +kernel
theorem dX4_leavingPlace_12 : decode cX4_leavingPlace 12 = .ok (.iconst 1, 1) := by decide +kernel
theorem dX4_leavingPlace_13 : decode cX4_leavingPlace 13 = .ok (.if_icmp .ne 12, 3) := by decide +kernel
theorem dX4_leavingPlace_16 : decode cX4_leavingPlace 16 = .ok (.aload_n 0, 1) := by decide +kernel
theorem dX4_leavingPlace_17 : decode cX4_leavingPlace 17 = .ok (.getfield 15, 3) := by decide +kernel
theorem dX4_leavingPlace_20 : decode cX4_leavingPlace 20 = .ok (.iconst 1, 1) := by decide +kernel
theorem dX4_leavingPlace_21 : decode cX4_leavingPlace 21 = .ok (.isub, 1) := by decide +kernel
theorem dX4_leavingPlace_22 : decode cX4_leavingPlace 22 = .ok (.goto 7, 3) := by decide +kernel
theorem dX4_leavingPlace_25 : decode cX4_leavingPlace 25 = .ok (.aload_n 0, 1) := by decide +kernel
theorem dX4_leavingPlace_26 : decode cX4_leavingPlace 26 = .ok (.invokevirtual 44, 3) := by decide +kernel
theorem dX4_leavingPlace_29 : decode cX4_leavingPlace 29 = .ok (.invokevirtual 32, 3) := by decide +kernel
theorem dX4_leavingPlace_32 : decode cX4_leavingPlace 32 = .ok (.ireturn, 1) := by decide +kernel
theorem dX4_mostCrowdedChair_0 : decode cX4_mostCrowdedChair 0 = .ok (.iconst 0, 1) := by decide +kernel
theorem dX4_mostCrowdedChair_1 : decode cX4_mostCrowdedChair 1 = .ok (.istore_n 1, 1) := by decide +kernel
theorem dX4_mostCrowdedChair_2 : decode cX4_mostCrowdedChair 2 = .ok (.ldc 48, 2) := by decide +kernel
theorem dX4_mostCrowdedChair_4 : decode cX4_mostCrowdedChair 4 = .ok (.istore_n 2, 1) := by decide +kernel
theorem dX4_mostCrowdedChair_5 : decode cX4_mostCrowdedChair 5 = .ok (.iconst 0, 1) := by decide +kernel
theorem dX4_mostCrowdedChair_6 : decode cX4_mostCrowdedChair 6 = .ok (.istore_n 3, 1) := by decide +kernel
theorem dX4_mostCrowdedChair_7 : decode cX4_mostCrowdedChair 7 = .ok (.iload_n 3, 1) := by decide +kernel
theorem dX4_mostCrowdedChair_8 : decode cX4_mostCrowdedChair 8 = .ok (.aload_n 0, 1) := by decide +kernel
theorem dX4_mostCrowdedChair_9 : decode cX4_mostCrowdedChair 9 = .ok (.getfield 15, 3) := by decide +kernel
theorem dX4_mostCrowdedChair_12 : decode cX4_mostCrowdedChair 12 = .ok (.if_icmp .ge 90, 3) := by decide +kernel
theorem dX4_mostCrowdedChair_15 : decode cX4_mostCrowdedChair 15 = .ok (.aload_n 0, 1) := by decide +kernel
theorem dX4_mostCrowdedChair_16 : decode cX4_mostCrowdedChair 16 = .ok (.iload_n 3, 1) := by decide +kernel
theorem dX4_mostCrowdedChair_17 : decode cX4_mostCrowdedChair 17 = .ok (.ifCond .le 9, 3) := by decide +kernel
theorem dX4_mostCrowdedChair_20 : decode cX4_mostCrowdedChair 20 = .ok (.iload_n 3, 1) := by decide +kernel
theorem dX4_mostCrowdedChair_21 : decode cX4_mostCrowdedChair 21 = .ok (.iconst 1, 1) := by decide +kernel
theorem dX4_mostCrowdedChair_22 : decode cX4_mostCrowdedChair 22 = .ok (.isub, 1) := by decide +kernel
theorem dX4_mostCrowdedChair_23 : decode cX4_mostCrowdedChair 23 = .ok (.goto 9, 3) := by decide +kernel
theorem dX4_mostCrowdedChair_26 : decode cX4_mostCrowdedChair 26 = .ok (.aload_n 0, 1) := by decide +kernel
theorem dX4_mostCrowdedChair_27 : decode cX4_mostCrowdedChair 27 = .ok (.getfield 15, 3) := by decide +kernel
theorem dX4_mostCrowdedChair_30 : decode cX4_mostCrowdedChair 30 = .ok (.iconst 1, 1) := by decide +kernel
theorem dX4_mostCrowdedChair_31 : decode cX4_mostCrowdedChair 31 = .ok (.isub, 1) := by decide +kernel
theorem dX4_mostCrowdedChair_32 : decode cX4_mostCrowdedChair 32 = .ok (.invokevirtual 32, 3) := by decide +kernel
theorem dX4_mostCrowdedChair_35 : decode cX4_mostCrowdedChair 35 = .ok (.istore 4, 2) := by decide +kernel
theorem dX4_mostCrowdedChair_37 : decode cX4_mostCrowdedChair 37 = .ok (.aload_n 0, 1) := by decide +kernel
theorem dX4_mostCrowdedChair_38 : decode cX4_mostCrowdedChair 38 = .ok (.iload_n 3, 1) := by decide +kernel
theorem dX4_mostCrowdedChair_39 : decode cX4_mostCrowdedChair 39 = .ok (.aload_n 0, 1) := by decide +kernel
theorem dX4_mostCrowdedChair_40 : decode cX4_mostCrowdedChair 40 = .ok (.getfield 15, 3) := by decide +kernel
theorem dX4_mostCrowdedChair_43 : decode cX4_mostCrowdedChair 43 = .ok (.iconst 1, 1) := by decide +kernel
theorem dX4_mostCrowdedChair_44 : decode cX4_mostCrowdedChair 44 = .ok (.isub, 1) := by decide +kernel
theorem dX4_mostCrowdedChair_45 : decode cX4_mostCrowdedChair 45 = .ok (.if_icmp .ge 9, 3) := by decide +kernel
theorem dX4_mostCrowdedChair_48 : decode cX4_mostCrowdedChair 48 = .ok (.iload_n 3, 1) := by decide +kernel
theorem dX4_mostCrowdedChair_49 : decode cX4_mostCrowdedChair 49 = .ok (.iconst 1, 1) := by decide +kernel
theorem dX4_mostCrowdedChair_50 : decode cX4_mostCrowdedChair 50 = .ok (.iadd, 1) := by decide +kernel
theorem dX4_mostCrowdedChair_51 : decode cX4_mostCrowdedChair 51 = .ok (.goto 4, 3) := by decide +kernel
theorem dX4_mostCrowdedChair_54 : decode cX4_mostCrowdedChair 54 = .ok (.iconst 0, 1) := by decide +kernel
theorem dX4_mostCrowdedChair_55 : decode cX4_mostCrowdedChair 55 = .ok (.invokevirtual 32, 3) := by decide +kernel
theorem dX4_mostCrowdedChair_58 : decode cX4_mostCrowdedChair 58 = .ok (.istore 5, 2) := by decide +kernel
theorem dX4_mostCrowdedChair_60 : decode cX4_mostCrowdedChair 60 = .ok (.aload_n 0, 1) := by decide +kernel
theorem dX4_mostCrowdedChair_61 : decode cX4_mostCrowdedChair 61 = .ok (.iload 4, 2) := by decide +kernel
theorem dX4_mostCrowdedChair_63 : decode cX4_mostCrowdedChair 63 = .ok (.aload_n 0, 1) := by decide +kernel
theorem dX4_mostCrowdedChair_64 : decode cX4_mostCrowdedChair 64 = .ok (.iload_n 3, 1) := by decide +kernel
theorem dX4_mostCrowdedChair_65 : decode cX4_mostCrowdedChair 65 = .ok (.invokevirtual 32, 3) := by decide +kernel
theorem dX4_mostCrowdedChair_68 : decode cX4_mostCrowdedChair 68 = .ok (.invokevirtual 49, 3) := by decide +kernel
theorem dX4_mostCrowdedChair_71 : decode cX4_mostCrowdedChair 71 = .ok (.aload_n 0, 1) := by decide +kernel
theorem dX4_mostCrowdedChair_72 : decode cX4_mostCrowdedChair 72 = .ok (.aload_n 0, 1) := by decide +kernel
theorem dX4_mostCrowdedChair_73 : decode cX4_mostCrowdedChair 73 = .ok (.iload_n 3, 1) := by decide +kernel
theorem dX4_mostCrowdedChair_74 : decode cX4_mostCrowdedChair 74 = .ok (.invokevirtual 32, 3) := by decide +kernel
theorem dX4_mostCrowdedChair_77 : decode cX4_mostCrowdedChair 77 = .ok (.iload 5, 2) := by decide +kernel
theorem dX4_mostCrowdedChair_79 : decode cX4_mostCrowdedChair 79 = .ok (.invokevirtual 49, 3) := by decide +kernel
theorem dX4_mostCrowdedChair_82 : decode cX4_mostCrowdedChair 82 = .ok (.iadd, 1) := by decide +kernel
theorem dX4_mostCrowdedChair_83 : decode cX4_mostCrowdedChair 83 = .ok (.istore 6, 2) := by decide +kernel
theorem dX4_mostCrowdedChair_85 : decode cX4_mostCrowdedChair 85 = .ok (.iload 6, 2) := by decide +kernel
theorem dX4_mostCrowdedChair_87 : decode cX4_mostCrowdedChair 87 = .ok (.iload_n 2, 1) := by decide +kernel
theorem dX4_mostCrowdedChair_88 : decode cX4_mostCrowdedChair 88 = .ok (.if_icmp .ge 8, 3) := by decide +kernel
theorem dX4_mostCrowdedChair_91 : decode cX4_mostCrowdedChair 91 = .ok (.iload 6, 2) := by decide +kernel
theorem dX4_mostCrowdedChair_93 : decode cX4_mostCrowdedChair 93 = .ok (.istore_n 2, 1) := by decide +kernel
theorem dX4_mostCrowdedChair_94 : decode cX4_mostCrowdedChair 94 = .ok (.iload_n 3, 1) := by decide +kernel
theorem dX4_mostCrowdedChair_95 : decode cX4_mostCrowdedChair 95 = .ok (.istore_n 1, 1) := by decide +kernel
theorem dX4_mostCrowdedChair_96 : decode cX4_mostCrowdedChair 96 = .ok (.iinc 3 1, 3) := by decide +kernel
theorem dX4_mostCrowdedChair_99 : decode cX4_mostCrowdedChair 99 = .ok (.goto (-92), 3) := by decide +kernel
theorem dX4_mostCrowdedChair_102 : decode cX4_mostCrowdedChair 102 = .ok (.iload_n 1, 1) := by decide +kernel
theorem dX4_mostCrowdedChair_103 : decode cX4_mostCrowdedChair 103 = .ok (.ireturn, 1) := by decide +kernel
theorem dX4_wayOn_0 : decode cX4_wayOn 0 = .ok (.iload_n 2, 1) := by decide +kernel
theorem dX4_wayOn_1 : decode cX4_wayOn 1 = .ok (.iload_n 1, 1) := by decide +kernel
theorem dX4_wayOn_2 : decode cX4_wayOn 2 = .ok (.if_icmp .le 9, 3) := by decide +kernel
theorem dX4_wayOn_5 : decode cX4_wayOn 5 = .ok (.iload_n 2, 1) := by decide +kernel
theorem dX4_wayOn_6 : decode cX4_wayOn 6 = .ok (.iload_n 1, 1) := by decide +kernel
theorem dX4_wayOn_7 : decode cX4_wayOn 7 = .ok (.isub, 1) := by decide +kernel
theorem dX4_wayOn_8 : decode cX4_wayOn 8 = .ok (.goto 11, 3) := by decide +kernel
theorem dX4_wayOn_11 : decode cX4_wayOn 11 = .ok (.iload_n 2, 1) := by decide +kernel
theorem dX4_wayOn_12 : decode cX4_wayOn 12 = .ok (.iload_n 1, 1) := by decide +kernel
theorem dX4_wayOn_13 : decode cX4_wayOn 13 = .ok (.isub, 1) := by decide +kernel
theorem dX4_wayOn_14 : decode cX4_wayOn 14 = .ok (.aload_n 0, 1) := by decide +kernel
theorem dX4_wayOn_15 : decode cX4_wayOn 15 = .ok (.getfield 9, 3) := by decide +kernel
theorem dX4_wayOn_18 : decode cX4_wayOn 18 = .ok (.iadd, 1) := by decide +kernel
theorem dX4_wayOn_19 : decode cX4_wayOn 19 = .ok (.ireturn, 1) := by decide +kernel
theorem dX5_init_0 : decode cX5_init 0 = .ok (.aload_n 0, 1) := by decide +kernel
theorem dX5_init_1 : decode cX5_init 1 = .ok (.invokespecial 3, 3) := by decide +kernel
theorem dX5_init_4 : decode cX5_init 4 = .ok (.aload_n 0, 1) := by decide +kernel
theorem dX5_init_5 : decode cX5_init 5 = .ok (.bipush 12, 2) := by decide +kernel
theorem dX5_init_7 : decode cX5_init 7 = .ok (.newarray .int, 2) := by decide +kernel
theorem dX5_init_9 : decode cX5_init 9 = .ok (.putfield 9, 3) := by decide +kernel
theorem dX5_init_12 : decode cX5_init 12 = .ok (.aload_n 0, 1) := by decide +kernel
theorem dX5_init_13 : decode cX5_init 13 = .ok (.sipush 132, 3) := by decide +kernel
theorem dX5_init_16 : decode cX5_init 16 = .ok (.newarray .int, 2) := by decide +kernel
theorem dX5_init_18 : decode cX5_init 18 = .ok (.putfield 15, 3) := by decide +kernel
theorem dX5_init_21 : decode cX5_init 21 = .ok (.aload_n 0, 1) := by decide +kernel
theorem dX5_init_22 : decode cX5_init 22 = .ok (.bipush 11, 2) := by decide +kernel
theorem dX5_init_24 : decode cX5_init 24 = .ok (.newarray .boolean, 2) := by decide +kernel
theorem dX5_init_26 : decode cX5_init 26 = .ok (.putfield 18, 3) := by decide +kernel
theorem dX5_init_29 : decode cX5_init 29 = .ok (.aload_n 0, 1) := by decide +kernel
theorem dX5_init_30 : decode cX5_init 30 = .ok (.iconst 0, 1) := by decide +kernel
theorem dX5_init_31 : decode cX5_init 31 = .ok (.putfield 22, 3) := by decide +kernel
theorem dX5_init_34 : decode cX5_init 34 = .ok (.aload_n 0, 1) := by decide +kernel
theorem dX5_init_35 : decode cX5_init 35 = .ok (.iconst 0, 1) := by decide +kernel
theorem dX5_init_36 : decode cX5_init 36 = .ok (.putfield 26, 3) := by decide +kernel
theorem dX5_init_39 : decode cX5_init 39 = .ok (.return_, 1) := by decide +kernel
theorem dX5_seatAll_0 : decode cX5_seatAll 0 = .ok (.aload_n 0, 1) := by decide +kernel
theorem dX5_seatAll_1 : decode cX5_seatAll 1 = .ok (.aload_n 1, 1) := by decide +kernel
theorem dX5_seatAll_2 : decode cX5_seatAll 2 = .ok (.invokevirtual 29, 3) := by decide +kernel
theorem dX5_seatAll_5 : decode cX5_seatAll 5 = .ok (.iconst 1, 1) := by decide +kernel
theorem dX5_seatAll_6 : decode cX5_seatAll 6 = .ok (.istore_n 2, 1) := by decide +kernel
theorem dX5_seatAll_7 : decode cX5_seatAll 7 = .ok (.iconst 0, 1) := by decide +kernel
theorem dX5_seatAll_8 : decode cX5_seatAll 8 = .ok (.istore_n 3, 1) := by decide +kernel
theorem dX5_seatAll_9 : decode cX5_seatAll 9 = .ok (.iload_n 3, 1) := by decide +kernel
theorem dX5_seatAll_10 : decode cX5_seatAll 10 = .ok (.aload_n 0, 1) := by decide +kernel
theorem dX5_seatAll_11 : decode cX5_seatAll 11 = .ok (.getfield 26, 3) := by decide +kernel
theorem dX5_seatAll_14 : decode cX5_seatAll 14 = .ok (.if_icmp .ge 18, 3) := by decide +kernel
theorem dX5_seatAll_17 : decode cX5_seatAll 17 = .ok (.iload_n 2, 1) := by decide +kernel
theorem dX5_seatAll_18 : decode cX5_seatAll 18 = .ok (.ifCond .eq 14, 3) := by decide +kernel
theorem dX5_seatAll_21 : decode cX5_seatAll 21 = .ok (.aload_n 0, 1) := by decide +kernel
theorem dX5_seatAll_22 : decode cX5_seatAll 22 = .ok (.invokevirtual 33, 3) := by decide +kernel
theorem dX5_seatAll_25 : decode cX5_seatAll 25 = .ok (.istore_n 2, 1) := by decide +kernel
theorem dX5_seatAll_26 : decode cX5_seatAll 26 = .ok (.iinc 3 1, 3) := by decide +kernel
theorem dX5_seatAll_29 : decode cX5_seatAll 29 = .ok (.goto (-20), 3) := by decide +kernel
theorem dX5_seatAll_32 : decode cX5_seatAll 32 = .ok (.iconst 0, 1) := by decide +kernel
theorem dX5_seatAll_33 : decode cX5_seatAll 33 = .ok (.istore_n 3, 1) := by decide +kernel
theorem dX5_seatAll_34 : decode cX5_seatAll 34 = .ok (.iload_n 3, 1) := by decide +kernel
theorem dX5_seatAll_35 : decode cX5_seatAll 35 = .ok (.aload_n 0, 1) := by decide +kernel
theorem dX5_seatAll_36 : decode cX5_seatAll 36 = .ok (.getfield 22, 3) := by decide +kernel
theorem dX5_seatAll_39 : decode cX5_seatAll 39 = .ok (.if_icmp .ge 37, 3) := by decide +kernel
theorem dX5_seatAll_42 : decode cX5_seatAll 42 = .ok (.aload_n 1, 1) := by decide +kernel
theorem dX5_seatAll_43 : decode cX5_seatAll 43 = .ok (.getfield 37, 3) := by decide +kernel
theorem dX5_seatAll_46 : decode cX5_seatAll 46 = .ok (.iload_n 3, 1) := by decide +kernel
theorem dX5_seatAll_47 : decode cX5_seatAll 47 = .ok (.aaload, 1) := by decide +kernel
theorem dX5_seatAll_48 : decode cX5_seatAll 48 = .ok (.getfield 42, 3) := by decide +kernel
theorem dX5_seatAll_51 : decode cX5_seatAll 51 = .ok (.bipush 6, 2) := by decide +kernel
theorem dX5_seatAll_53 : decode cX5_seatAll 53 = .ok (.if_icmp .ne 17, 3) := by decide +kernel
theorem dX5_seatAll_56 : decode cX5_seatAll 56 = .ok (.aload_n 0, 1) := by decide +kernel
theorem dX5_seatAll_57 : decode cX5_seatAll 57 = .ok (.getfield 9, 3) := by decide +kernel
theorem dX5_seatAll_60 : decode cX5_seatAll 60 = .ok (.iload_n 3, 1) := by decide +kernel
theorem dX5_seatAll_61 : decode cX5_seatAll 61 = .ok (.iaload, 1) := by decide +kernel
theorem dX5_seatAll_62 : decode cX5_seatAll 62 = .ok (.ifCond .lt 8, 3) := by decide +kernel
theorem dX5_seatAll_65 : decode cX5_seatAll 65 = .ok (.aload_n 0, 1) := by decide +kernel
theorem dX5_seatAll_66 : decode cX5_seatAll 66 = .ok (.iload_n 3, 1) := by decide +kernel
theorem dX5_seatAll_67 : decode cX5_seatAll 67 = .ok (.invokevirtual 47, 3) := by decide +kernel
theorem dX5_seatAll_70 : decode cX5_seatAll 70 = .ok (.iinc 3 1, 3) := by decide +kernel
theorem dX5_seatAll_73 : decode cX5_seatAll 73 = .ok (.goto (-39), 3) := by decide +kernel
theorem dX5_seatAll_76 : decode cX5_seatAll 76 = .ok (.return_, 1) := by decide +kernel
theorem dX5_isSeated_0 : decode cX5_isSeated 0 = .ok (.iload_n 1, 1) := by decide +kernel
theorem dX5_isSeated_1 : decode cX5_isSeated 1 = .ok (.ifCond .lt 24, 3) := by decide +kernel
theorem dX5_isSeated_4 : decode cX5_isSeated 4 = .ok (.iload_n 1, 1) := by decide +kernel
theorem dX5_isSeated_5 : decode cX5_isSeated 5 = .ok (.aload_n 0, 1) := by decide +kernel
theorem dX5_isSeated_6 : decode cX5_isSeated 6 = .ok (.getfield 22, 3) := by decide +kernel
theorem dX5_isSeated_9 : decode cX5_isSeated 9 = .ok (.if_icmp .ge 16, 3) := by decide +kernel
theorem dX5_isSeated_12 : decode cX5_isSeated 12 = .ok (.aload_n 0, 1) := by decide +kernel
theorem dX5_isSeated_13 : decode cX5_isSeated 13 = .ok (.getfield 9, 3) := by decide +kernel
theorem dX5_isSeated_16 : decode cX5_isSeated 16 = .ok (.iload_n 1, 1) := by decide +kernel
theorem dX5_isSeated_17 : decode cX5_isSeated 17 = .ok (.iaload, 1) := by decide +kernel
theorem dX5_isSeated_18 : decode cX5_isSeated 18 = .ok (.ifCond .lt 7, 3) := by decide +kernel
theorem dX5_isSeated_21 : decode cX5_isSeated 21 = .ok (.iconst 1, 1) := by decide +kernel
theorem dX5_isSeated_22 : decode cX5_isSeated 22 = .ok (.goto 4, 3) := by decide +kernel
theorem dX5_isSeated_25 : decode cX5_isSeated 25 = .ok (.iconst 0, 1) := by decide +kernel
theorem dX5_isSeated_26 : decode cX5_isSeated 26 = .ok (.ireturn, 1) := by decide +kernel
theorem dX5_placeOf_0 : decode cX5_placeOf 0 = .ok (.aload_n 0, 1) := by decide +kernel
theorem dX5_placeOf_1 : decode cX5_placeOf 1 = .ok (.iload_n 1, 1) := by decide +kernel
theorem dX5_placeOf_2 : decode cX5_placeOf 2 = .ok (.invokevirtual 51, 3) := by decide +kernel
theorem dX5_placeOf_5 : decode cX5_placeOf 5 = .ok (.ifCond .eq 16, 3) := by decide +kernel
theorem dX5_placeOf_8 : decode cX5_placeOf 8 = .ok (.aload_n 2, 1) := by decide +kernel
theorem dX5_placeOf_9 : decode cX5_placeOf 9 = .ok (.aload_n 0, 1) := by decide +kernel
theorem dX5_placeOf_10 : decode cX5_placeOf 10 = .ok (.getfield 9, 3) := by decide +kernel
theorem dX5_placeOf_13 : decode cX5_placeOf 13 = .ok (.iload_n 1, 1) := by decide +kernel
theorem dX5_placeOf_14 : decode cX5_placeOf 14 = .ok (.iaload, 1) := by decide +kernel
theorem dX5_placeOf_15 : decode cX5_placeOf 15 = .ok (.invokevirtual 55, 3) := by decide +kernel
theorem dX5_placeOf_18 : decode cX5_placeOf 18 = .ok (.goto 5, 3) := by decide +kernel
theorem dX5_placeOf_21 : decode cX5_placeOf 21 = .ok (.bipush (-9), 2) := by decide +kernel
theorem dX5_placeOf_23 : decode cX5_placeOf 23 = .ok (.ireturn, 1) := by decide +kernel
theorem dX5_measure_0 : decode cX5_measure 0 = .ok (.aload_n 0, 1) := by decide +kernel
theorem dX5_measure_1 : decode cX5_measure 1 = .ok (.aload_n 1, 1) := by decide +kernel
theorem dX5_measure_2 : decode cX5_measure 2 = .ok (.getfield 61, 3) := by decide +kernel
theorem dX5_measure_5 : decode cX5_measure 5 = .ok (.bipush 12, 2) := by decide +kernel
theorem dX5_measure_7 : decode cX5_measure 7 = .ok (.if_icmp .ge 10, 3) := by decide +kernel
theorem dX5_measure_10 : decode cX5_measure 10 = .ok (.aload_n 1, 1) := by decide +kernel
theorem dX5_measure_11 : decode cX5_measure 11 = .ok (.getfield 61, 3) := by decide +kernel
theorem dX5_measure_14 : decode cX5_measure 14 = .ok (.goto 5, 3) := by decide +kernel
theorem dX5_measure_17 : decode cX5_measure 17 = .ok (.bipush 12, 2) := by decide +kernel
theorem dX5_measure_19 : decode cX5_measure 19 = .ok (.putfield 22, 3) := by decide +kernel
theorem dX5_measure_22 : decode cX5_measure 22 = .ok (.aload_n 0, 1) := by decide +kernel
theorem dX5_measure_23 : decode cX5_measure 23 = .ok (.aload_n 1, 1) := by decide +kernel
theorem dX5_measure_24 : decode cX5_measure 24 = .ok (.getfield 64, 3) := by decide +kernel
theorem dX5_measure_27 : decode cX5_measure 27 = .ok (.getfield 68, 3) := by decide +kernel
theorem dX5_measure_30 : decode cX5_measure 30 = .ok (.bipush 11, 2) := by decide +kernel
theorem dX5_measure_32 : decode cX5_measure 32 = .ok (.if_icmp .ge 13, 3) := by decide +kernel
theorem dX5_measure_35 : decode cX5_measure 35 = .ok (.aload_n 1, 1) := by decide +kernel
theorem dX5_measure_36 : decode cX5_measure 36 = .ok (.getfield 64, 3) := by decide +kernel
theorem dX5_measure_39 : decode cX5_measure 39 = .ok (.getfield 68, 3) := by decide +kernel
theorem dX5_measure_42 : decode cX5_measure 42 = .ok (.goto 5, 3) := by decide +kernel
theorem dX5_measure_45 : decode cX5_measure 45 = .ok (.bipush 11, 2) := by decide +kernel
theorem dX5_measure_47 : decode cX5_measure 47 = .ok (.putfield 26, 3) := by decide +kernel
theorem dX5_measure_50 : decode cX5_measure 50 = .ok (.iconst 0, 1) := by decide +kernel
theorem dX5_measure_51 : decode cX5_measure 51 = .ok (.istore_n 2, 1) := by decide +kernel
theorem dX5_measure_52 : decode cX5_measure 52 = .ok (.iload_n 2, 1) := by decide +kernel
theorem dX5_measure_53 : decode cX5_measure 53 = .ok (.aload_n 0, 1) := by decide +kernel
theorem dX5_measure_54 : decode cX5_measure 54 = .ok (.getfield 26, 3) := by decide +kernel
theorem dX5_measure_57 : decode cX5_measure 57 = .ok (.if_icmp .ge 16, 3) := by decide +kernel
theorem dX5_measure_60 : decode cX5_measure 60 = .ok (.aload_n 0, 1) := by decide +kernel
theorem dX5_measure_61 : decode cX5_measure 61 = .ok (.getfield 18, 3) := by decide +kernel
theorem dX5_measure_64 : decode cX5_measure 64 = .ok (.iload_n 2, 1) := by decide +kernel
theorem dX5_measure_65 : decode cX5_measure 65 = .ok (.iconst 1, 1) := by decide +kernel
theorem dX5_measure_66 : decode cX5_measure 66 = .ok (.bastore, 1) := by decide +kernel
theorem dX5_measure_67 : decode cX5_measure 67 = .ok (.iinc 2 1, 3) := by decide +kernel
theorem dX5_measure_70 : decode cX5_measure 70 = .ok (.goto (-18), 3) := by decide +kernel
theorem dX5_measure_73 : decode cX5_measure 73 = .ok (.iconst 0, 1) := by decide +kernel
theorem dX5_measure_74 : decode cX5_measure 74 = .ok (.istore_n 2, 1) := by decide +kernel
theorem dX5_measure_75 : decode cX5_measure 75 = .ok (.iload_n 2, 1) := by decide +kernel
theorem dX5_measure_76 : decode cX5_measure 76 = .ok (.aload_n 0, 1) := by decide +kernel
theorem dX5_measure_77 : decode cX5_measure 77 = .ok (.getfield 22, 3) := by decide +kernel
theorem dX5_measure_80 : decode cX5_measure 80 = .ok (.if_icmp .ge 114, 3) := by decide +kernel
theorem dX5_measure_83 : decode cX5_measure 83 = .ok (.aload_n 1, 1) := by decide +kernel
theorem dX5_measure_84 : decode cX5_measure 84 = .ok (.getfield 37, 3) := by decide +kernel
theorem dX5_measure_87 : decode cX5_measure 87 = .ok (.iload_n 2, 1) := by decide +kernel
theorem dX5_measure_88 : decode cX5_measure 88 = .ok (.aaload, 1) := by decide +kernel
theorem dX5_measure_89 : decode cX5_measure 89 = .ok (.astore_n 3, 1) := by decide +kernel
theorem dX5_measure_90 : decode cX5_measure 90 = .ok (.aload_n 0, 1) := by decide +kernel
theorem dX5_measure_91 : decode cX5_measure 91 = .ok (.getfield 9, 3) := by decide +kernel
theorem dX5_measure_94 : decode cX5_measure 94 = .ok (.iload_n 2, 1) := by decide +kernel
theorem dX5_measure_95 : decode cX5_measure 95 = .ok (.iconst (-1), 1) := by decide +kernel
theorem dX5_measure_96 : decode cX5_measure 96 = .ok (.iastore, 1) := by decide +kernel
theorem dX5_measure_97 : decode cX5_measure 97 = .ok (.iconst 0, 1) := by decide +kernel
theorem dX5_measure_98 : decode cX5_measure 98 = .ok (.istore 4, 2) := by decide +kernel
theorem dX5_measure_100 : decode cX5_measure 100 = .ok (.iload 4, 2) := by decide +kernel
theorem dX5_measure_102 : decode cX5_measure 102 = .ok (.aload_n 0, 1) := by decide +kernel
theorem dX5_measure_103 : decode cX5_measure 103 = .ok (.getfield 26, 3) := by decide +kernel
theorem dX5_measure_106 : decode cX5_measure 106 = .ok (.if_icmp .ge 82, 3) := by decide +kernel
theorem dX5_measure_109 : decode cX5_measure 109 = .ok (.aload_n 1, 1) := by decide +kernel
theorem dX5_measure_110 : decode cX5_measure 110 = .ok (.getfield 64, 3) := by decide +kernel
theorem dX5_measure_113 : decode cX5_measure 113 = .ok (.aload_n 3, 1) := by decide +kernel
theorem dX5_measure_114 : decode cX5_measure 114 = .ok (.getfield 69, 3) := by decide +kernel
theorem dX5_measure_117 : decode cX5_measure 117 = .ok (.aload_n 1, 1) := by decide +kernel
theorem dX5_measure_118 : decode cX5_measure 118 = .ok (.getfield 64, 3) := by decide +kernel
theorem dX5_measure_121 : decode cX5_measure 121 = .ok (.iload 4, 2) := by decide +kernel
theorem dX5_measure_123 : decode cX5_measure 123 = .ok (.invokevirtual 55, 3) := by decide +kernel
theorem dX5_measure_126 : decode cX5_measure 126 = .ok (.invokevirtual 72, 3) := by decide +kernel
theorem dX5_measure_129 : decode cX5_measure 129 = .ok (.istore 5, 2) := by decide +kernel
theorem dX5_measure_131 : decode cX5_measure 131 = .ok (.aload_n 3, 1) := by decide +kernel
theorem dX5_measure_132 : decode cX5_measure 132 = .ok (.getfield 76, 3) := by decide +kernel
theorem dX5_measure_135 : decode cX5_measure 135 = .ok (.ifCond .eq 16, 3) := by decide +kernel
theorem dX5_measure_138 : decode cX5_measure 138 = .ok (.iload 5, 2) := by decide +kernel
theorem dX5_measure_140 : decode cX5_measure 140 = .ok (.aload_n 3, 1) := by decide +kernel
theorem dX5_measure_141 : decode cX5_measure 141 = .ok (.getfield 80, 3) := by decide +kernel
theorem dX5_measure_144 : decode cX5_measure 144 = .ok (.if_icmp .gt 7, 3) := by decide +kernel
theorem dX5_measure_147 : decode cX5_measure 147 = .ok (.iconst 1, 1) := by decide +kernel
theorem dX5_measure_148 : decode cX5_measure 148 = .ok (.goto 4, 3) := by decide +kernel
theorem dX5_measure_151 : decode cX5_measure 151 = .ok (.iconst 0, 1) := by decide +kernel
theorem dX5_measure_152 : decode cX5_measure 152 = .ok (.istore 6, 2) := by decide +kernel
theorem dX5_measure_154 : decode cX5_measure 154 = .ok (.aload_n 0, 1) := by decide +kernel
theorem dX5_measure_155 : decode cX5_measure 155 = .ok (.getfield 15, 3) := by decide +kernel
theorem dX5_measure_158 : decode cX5_measure 158 = .ok (.iload_n 2, 1) := by decide +kernel
theorem dX5_measure_159 : decode cX5_measure 159 = .ok (.bipush 11, 2) := by decide +kernel
theorem dX5_measure_161 : decode cX5_measure 161 = .ok (.imul, 1) := by decide +kernel
theorem dX5_measure_162 : decode cX5_measure 162 = .ok (.iload 4, 2) := by decide +kernel
theorem dX5_measure_164 : decode cX5_measure 164 = .ok (.iadd, 1) := by decide +kernel
theorem dX5_measure_165 : decode cX5_measure 165 = .ok (.iload 6, 2) := by decide +kernel
theorem dX5_measure_167 : decode cX5_measure 167 = .ok (.ifCond .eq 12, 3) := by decide +kernel
theorem dX5_measure_170 : decode cX5_measure 170 = .ok (.aload_n 3, 1) := by decide +kernel
theorem dX5_measure_171 : decode cX5_measure 171 = .ok (.iload 5, 2) := by decide +kernel
theorem dX5_measure_173 : decode cX5_measure 173 = .ok (.invokevirtual 83, 3) := by decide +kernel
theorem dX5_measure_176 : decode cX5_measure 176 = .ok (.goto 5, 3) := by decide +kernel
theorem dX5_measure_179 : decode cX5_measure 179 = .ok (.ldc 86, 2) := by decide +kernel
theorem dX5_measure_181 : decode cX5_measure 181 = .ok (.iastore, 1) := by decide +kernel
theorem dX5_measure_182 : decode cX5_measure 182 = .ok (.iinc 4 1, 3) := by decide +kernel
theorem dX5_measure_185 : decode cX5_measure 185 = .ok (.goto (-85), 3) := by decide +kernel
theorem dX5_measure_188 : decode cX5_measure 188 = .ok (.iinc 2 1, 3) := by decide +kernel
theorem dX5_measure_191 : decode cX5_measure 191 = .ok (.goto (-116), 3) := by decide +kernel
theorem dX5_measure_194 : decode cX5_measure 194 = .ok (.return_, 1) := by decide +kernel
theorem dX5_seatLeastHaste_0 : decode cX5_seatLeastHaste 0 = .ok (.ldc 86, 2) := by decide +kernel
theorem dX5_seatLeastHaste_2 : decode cX5_seatLeastHaste 2 = .ok (.istore_n 1, 1) := by decide +kernel
theorem dX5_seatLeastHaste_3 : decode cX5_seatLeastHaste 3 = .ok (.iconst (-1), 1) := by decide +kernel
theorem dX5_seatLeastHaste_4 : decode cX5_seatLeastHaste 4 = .ok (.istore_n 2, 1) := by decide +kernel
theorem dX5_seatLeastHaste_5 : decode cX5_seatLeastHaste 5 = .ok (.iconst (-1), 1) := by decide +kernel
theorem dX5_seatLeastHaste_6 : decode cX5_seatLeastHaste 6 = .ok (.istore_n 3, 1) := by decide +kernel
theorem dX5_seatLeastHaste_7 : decode cX5_seatLeastHaste 7 = .ok (.iconst 0, 1) := by decide +kernel
theorem dX5_seatLeastHaste_8 : decode cX5_seatLeastHaste 8 = .ok (.istore 4, 2) := by decide +kernel
theorem dX5_seatLeastHaste_10 : decode cX5_seatLeastHaste 10 = .ok (.iload 4, 2) := by decide +kernel
theorem dX5_seatLeastHaste_12 : decode cX5_seatLeastHaste 12 = .ok (.aload_n 0, 1) := by decide +kernel
theorem dX5_seatLeastHaste_13 : decode cX5_seatLeastHaste 13 = .ok (.getfield 22, 3) := by decide +kernel
theorem dX5_seatLeastHaste_16 : decode cX5_seatLeastHaste 16 = .ok (.if_icmp .ge 84, 3) := by decide +kernel
theorem dX5_seatLeastHaste_19 : decode cX5_seatLeastHaste 19 = .ok (.iconst 0, 1) := by decide +kernel
theorem dX5_seatLeastHaste_20 : decode cX5_seatLeastHaste 20 = .ok (.istore 5, 2) := by decide +kernel
theorem dX5_seatLeastHaste_22 : decode cX5_seatLeastHaste 22 = .ok (.iload 5, 2) := by decide +kernel
theorem dX5_seatLeastHaste_24 : decode cX5_seatLeastHaste 24 = .ok (.aload_n 0, 1) := by decide +kernel
theorem dX5_seatLeastHaste_25 : decode cX5_seatLeastHaste 25 = .ok (.getfield 26, 3) := by decide +kernel
theorem dX5_seatLeastHaste_28 : decode cX5_seatLeastHaste 28 = .ok (.if_icmp .ge 66, 3) := by decide +kernel
theorem dX5_seatLeastHaste_31 : decode cX5_seatLeastHaste 31 = .ok (.aload_n 0, 1) := by decide +kernel
theorem dX5_seatLeastHaste_32 : decode cX5_seatLeastHaste 32 = .ok (.getfield 9, 3) := by decide +kernel
theorem dX5_seatLeastHaste_35 : decode cX5_seatLeastHaste 35 = .ok (.iload 4, 2) := by decide +kernel
theorem dX5_seatLeastHaste_37 : decode cX5_seatLeastHaste 37 = .ok (.iaload, 1) := by decide +kernel
theorem dX5_seatLeastHaste_38 : decode cX5_seatLeastHaste 38 = .ok (.ifCond .ge 56, 3) := by decide +kernel
theorem dX5_seatLeastHaste_41 : decode cX5_seatLeastHaste 41 = .ok (.aload_n 0, 1) := by decide +kernel
theorem dX5_seatLeastHaste_42 : decode cX5_seatLeastHaste 42 = .ok (.getfield 18, 3) := by decide +kernel
theorem dX5_seatLeastHaste_45 : decode cX5_seatLeastHaste 45 = .ok (.iload 5, 2) := by decide +kernel
theorem dX5_seatLeastHaste_47 : decode cX5_seatLeastHaste 47 = .ok (.baload, 1) := by decide +kernel
theorem dX5_seatLeastHaste_48 : decode cX5_seatLeastHaste 48 = .ok (.ifCond .eq 40, 3) := by decide +kernel
theorem dX5_seatLeastHaste_51 : decode cX5_seatLeastHaste 51 = .ok (.aload_n 0, 1) := by decide +kernel
theorem dX5_seatLeastHaste_52 : decode cX5_seatLeastHaste 52 = .ok (.getfield 15, 3) := by decide +kernel
theorem dX5_seatLeastHaste_55 : decode cX5_seatLeastHaste 55 = .ok (.iload 4, 2) := by decide +kernel
theorem dX5_seatLeastHaste_57 : decode cX5_seatLeastHaste 57 = .ok (.bipush 11, 2) := by decide +kernel
theorem dX5_seatLeastHaste_59 : decode cX5_seatLeastHaste 59 = .ok (.imul, 1) := by decide +kernel
theorem dX5_seatLeastHaste_60 : decode cX5_seatLeastHaste 60 = .ok (.iload 5, 2) := by decide +kernel
theorem dX5_seatLeastHaste_62 : decode cX5_seatLeastHaste 62 = .ok (.iadd, 1) := by decide +kernel
theorem dX5_seatLeastHaste_63 : decode cX5_seatLeastHaste 63 = .ok (.iaload, 1) := by decide +kernel
theorem dX5_seatLeastHaste_64 : decode cX5_seatLeastHaste 64 = .ok (.iload_n 1, 1) := by decide +kernel
theorem dX5_seatLeastHaste_65 : decode cX5_seatLeastHaste 65 = .ok (.if_icmp .ge 23, 3) := by decide +kernel
theorem dX5_seatLeastHaste_68 : decode cX5_seatLeastHaste 68 = .ok (.aload_n 0, 1) := by decide +kernel
theorem dX5_seatLeastHaste_69 : decode cX5_seatLeastHaste 69 = .ok (.getfield 15, 3) := by decide +kernel
theorem dX5_seatLeastHaste_72 : decode cX5_seatLeastHaste 72 = .ok (.iload 4, 2) := by decide +kernel
theorem dX5_seatLeastHaste_74 : decode cX5_seatLeastHaste 74 = .ok (.bipush 11, 2) := by decide +kernel
theorem dX5_seatLeastHaste_76 : decode cX5_seatLeastHaste 76 = .ok (.imul, 1) := by decide +kernel
theorem dX5_seatLeastHaste_77 : decode cX5_seatLeastHaste 77 = .ok (.iload 5, 2) := by decide +kernel
theorem dX5_seatLeastHaste_79 : decode cX5_seatLeastHaste 79 = .ok (.iadd, 1) := by decide +kernel
theorem dX5_seatLeastHaste_80 : decode cX5_seatLeastHaste 80 = .ok (.iaload, 1) := by decide +kernel
theorem dX5_seatLeastHaste_81 : decode cX5_seatLeastHaste 81 = .ok (.istore_n 1, 1) := by decide +kernel
theorem dX5_seatLeastHaste_82 : decode cX5_seatLeastHaste 82 = .ok (.iload 4, 2) := by decide +kernel
theorem dX5_seatLeastHaste_84 : decode cX5_seatLeastHaste 84 = .ok (.istore_n 2, 1) := by decide +kernel
theorem dX5_seatLeastHaste_85 : decode cX5_seatLeastHaste 85 = .ok (.iload 5, 2) := by decide +kernel
theorem dX5_seatLeastHaste_87 : decode cX5_seatLeastHaste 87 = .ok (.istore_n 3, 1) := by decide +kernel
theorem dX5_seatLeastHaste_88 : decode cX5_seatLeastHaste 88 = .ok (.iinc 5 1, 3) := by decide +kernel
