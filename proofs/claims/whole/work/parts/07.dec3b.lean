theorem dX7_findShares_26 : decode cX7_findShares 26 = .ok (.iconst 0, 1) := by decide +kernel
theorem dX7_findShares_27 : decode cX7_findShares 27 = .ok (.istore 4, 2) := by decide +kernel
theorem dX7_findShares_29 : decode cX7_findShares 29 = .ok (.iload 4, 2) := by decide +kernel
theorem dX7_findShares_31 : decode cX7_findShares 31 = .ok (.sipush 600, 3) := by decide +kernel
theorem dX7_findShares_34 : decode cX7_findShares 34 = .ok (.if_icmp .ge 98, 3) := by decide +kernel
theorem dX7_findShares_37 : decode cX7_findShares 37 = .ok (.aload_n 0, 1) := by decide +kernel
theorem dX7_findShares_38 : decode cX7_findShares 38 = .ok (.getfield 44, 3) := by decide +kernel
theorem dX7_findShares_41 : decode cX7_findShares 41 = .ok (.iload 4, 2) := by decide +kernel
theorem dX7_findShares_43 : decode cX7_findShares 43 = .ok (.aload_n 0, 1) := by decide +kernel
theorem dX7_findShares_44 : decode cX7_findShares 44 = .ok (.iload 4, 2) := by decide +kernel
theorem dX7_findShares_46 : decode cX7_findShares 46 = .ok (.invokevirtual 252, 3) := by decide +kernel
theorem dX7_findShares_49 : decode cX7_findShares 49 = .ok (.iload_n 2, 1) := by decide +kernel
theorem dX7_findShares_50 : decode cX7_findShares 50 = .ok (.if_icmp .gt 35, 3) := by decide +kernel
theorem dX7_findShares_53 : decode cX7_findShares 53 = .ok (.aload_n 0, 1) := by decide +kernel
theorem dX7_findShares_54 : decode cX7_findShares 54 = .ok (.iload 4, 2) := by decide +kernel
theorem dX7_findShares_56 : decode cX7_findShares 56 = .ok (.invokestatic 237, 3) := by decide +kernel
theorem dX7_findShares_59 : decode cX7_findShares 59 = .ok (.iload 4, 2) := by decide +kernel
theorem dX7_findShares_61 : decode cX7_findShares 61 = .ok (.invokestatic 240, 3) := by decide +kernel
theorem dX7_findShares_64 : decode cX7_findShares 64 = .ok (.iload 4, 2) := by decide +kernel
theorem dX7_findShares_66 : decode cX7_findShares 66 = .ok (.invokestatic 243, 3) := by decide +kernel
theorem dX7_findShares_69 : decode cX7_findShares 69 = .ok (.iload 4, 2) := by decide +kernel
theorem dX7_findShares_71 : decode cX7_findShares 71 = .ok (.invokestatic 246, 3) := by decide +kernel
theorem dX7_findShares_74 : decode cX7_findShares 74 = .ok (.iload_n 1, 1) := by decide +kernel
theorem dX7_findShares_75 : decode cX7_findShares 75 = .ok (.aload_n 0, 1) := by decide +kernel
theorem dX7_findShares_76 : decode cX7_findShares 76 = .ok (.getfield 7, 3) := by decide +kernel
theorem dX7_findShares_79 : decode cX7_findShares 79 = .ok (.invokevirtual 206, 3) := by decide +kernel
theorem dX7_findShares_82 : decode cX7_findShares 82 = .ok (.goto 5, 3) := by decide +kernel
theorem dX7_findShares_85 : decode cX7_findShares 85 = .ok (.bipush (-9), 2) := by decide +kernel
theorem dX7_findShares_87 : decode cX7_findShares 87 = .ok (.iastore, 1) := by decide +kernel
theorem dX7_findShares_88 : decode cX7_findShares 88 = .ok (.aload_n 0, 1) := by decide +kernel
theorem dX7_findShares_89 : decode cX7_findShares 89 = .ok (.getfield 44, 3) := by decide +kernel
theorem dX7_findShares_92 : decode cX7_findShares 92 = .ok (.iload 4, 2) := by decide +kernel
theorem dX7_findShares_94 : decode cX7_findShares 94 = .ok (.iaload, 1) := by decide +kernel
theorem dX7_findShares_95 : decode cX7_findShares 95 = .ok (.ifCond .lt 31, 3) := by decide +kernel
theorem dX7_findShares_98 : decode cX7_findShares 98 = .ok (.aload_n 0, 1) := by decide +kernel
theorem dX7_findShares_99 : decode cX7_findShares 99 = .ok (.getfield 41, 3) := by decide +kernel
theorem dX7_findShares_102 : decode cX7_findShares 102 = .ok (.aload_n 0, 1) := by decide +kernel
theorem dX7_findShares_103 : decode cX7_findShares 103 = .ok (.getfield 44, 3) := by decide +kernel
theorem dX7_findShares_106 : decode cX7_findShares 106 = .ok (.iload 4, 2) := by decide +kernel
theorem dX7_findShares_108 : decode cX7_findShares 108 = .ok (.iaload, 1) := by decide +kernel
theorem dX7_findShares_109 : decode cX7_findShares 109 = .ok (.dup2, 1) := by decide +kernel
theorem dX7_findShares_110 : decode cX7_findShares 110 = .ok (.iaload, 1) := by decide +kernel
theorem dX7_findShares_111 : decode cX7_findShares 111 = .ok (.iload 4, 2) := by decide +kernel
theorem dX7_findShares_113 : decode cX7_findShares 113 = .ok (.invokestatic 261, 3) := by decide +kernel
theorem dX7_findShares_116 : decode cX7_findShares 116 = .ok (.iadd, 1) := by decide +kernel
theorem dX7_findShares_117 : decode cX7_findShares 117 = .ok (.iastore, 1) := by decide +kernel
theorem dX7_findShares_118 : decode cX7_findShares 118 = .ok (.iload_n 3, 1) := by decide +kernel
theorem dX7_findShares_119 : decode cX7_findShares 119 = .ok (.iload 4, 2) := by decide +kernel
theorem dX7_findShares_121 : decode cX7_findShares 121 = .ok (.invokestatic 261, 3) := by decide +kernel
theorem dX7_findShares_124 : decode cX7_findShares 124 = .ok (.iadd, 1) := by decide +kernel
theorem dX7_findShares_125 : decode cX7_findShares 125 = .ok (.istore_n 3, 1) := by decide +kernel
theorem dX7_findShares_126 : decode cX7_findShares 126 = .ok (.iinc 4 1, 3) := by decide +kernel
theorem dX7_findShares_129 : decode cX7_findShares 129 = .ok (.goto (-100), 3) := by decide +kernel
theorem dX7_findShares_132 : decode cX7_findShares 132 = .ok (.iload_n 3, 1) := by decide +kernel
theorem dX7_findShares_133 : decode cX7_findShares 133 = .ok (.ireturn, 1) := by decide +kernel
theorem dX7_partOf_0 : decode cX7_partOf 0 = .ok (.iload_n 0, 1) := by decide +kernel
theorem dX7_partOf_1 : decode cX7_partOf 1 = .ok (.istore_n 3, 1) := by decide +kernel
theorem dX7_partOf_2 : decode cX7_partOf 2 = .ok (.iload_n 1, 1) := by decide +kernel
theorem dX7_partOf_3 : decode cX7_partOf 3 = .ok (.istore 4, 2) := by decide +kernel
theorem dX7_partOf_5 : decode cX7_partOf 5 = .ok (.iload 4, 2) := by decide +kernel
theorem dX7_partOf_7 : decode cX7_partOf 7 = .ok (.ifCond .eq 19, 3) := by decide +kernel
theorem dX7_partOf_10 : decode cX7_partOf 10 = .ok (.iload_n 3, 1) := by decide +kernel
theorem dX7_partOf_11 : decode cX7_partOf 11 = .ok (.iload 4, 2) := by decide +kernel
theorem dX7_partOf_13 : decode cX7_partOf 13 = .ok (.irem, 1) := by decide +kernel
theorem dX7_partOf_14 : decode cX7_partOf 14 = .ok (.istore 5, 2) := by decide +kernel
theorem dX7_partOf_16 : decode cX7_partOf 16 = .ok (.iload 4, 2) := by decide +kernel
theorem dX7_partOf_18 : decode cX7_partOf 18 = .ok (.istore_n 3, 1) := by decide +kernel
theorem dX7_partOf_19 : decode cX7_partOf 19 = .ok (.iload 5, 2) := by decide +kernel
theorem dX7_partOf_21 : decode cX7_partOf 21 = .ok (.istore 4, 2) := by decide +kernel
theorem dX7_partOf_23 : decode cX7_partOf 23 = .ok (.goto (-18), 3) := by decide +kernel
theorem dX7_partOf_26 : decode cX7_partOf 26 = .ok (.iload_n 2, 1) := by decide +kernel
theorem dX7_partOf_27 : decode cX7_partOf 27 = .ok (.ifCond .ne 7, 3) := by decide +kernel
theorem dX7_partOf_30 : decode cX7_partOf 30 = .ok (.iload_n 0, 1) := by decide +kernel
theorem dX7_partOf_31 : decode cX7_partOf 31 = .ok (.goto 4, 3) := by decide +kernel
theorem dX7_partOf_34 : decode cX7_partOf 34 = .ok (.iload_n 1, 1) := by decide +kernel
theorem dX7_partOf_35 : decode cX7_partOf 35 = .ok (.iload_n 3, 1) := by decide +kernel
theorem dX7_partOf_36 : decode cX7_partOf 36 = .ok (.idiv, 1) := by decide +kernel
theorem dX7_partOf_37 : decode cX7_partOf 37 = .ok (.ireturn, 1) := by decide +kernel
theorem dX7_odds_0 : decode cX7_odds 0 = .ok (.iload_n 1, 1) := by decide +kernel
theorem dX7_odds_1 : decode cX7_odds 1 = .ok (.invokestatic 224, 3) := by decide +kernel
theorem dX7_odds_4 : decode cX7_odds 4 = .ok (.ifCond .eq 28, 3) := by decide +kernel
theorem dX7_odds_7 : decode cX7_odds 7 = .ok (.iload_n 2, 1) := by decide +kernel
theorem dX7_odds_8 : decode cX7_odds 8 = .ok (.iconst 0, 1) := by decide +kernel
theorem dX7_odds_9 : decode cX7_odds 9 = .ok (.bipush 9, 2) := by decide +kernel
theorem dX7_odds_11 : decode cX7_odds 11 = .ok (.invokestatic 81, 3) := by decide +kernel
theorem dX7_odds_14 : decode cX7_odds 14 = .ok (.ifCond .eq 18, 3) := by decide +kernel
theorem dX7_odds_17 : decode cX7_odds 17 = .ok (.iload_n 3, 1) := by decide +kernel
theorem dX7_odds_18 : decode cX7_odds 18 = .ok (.invokestatic 249, 3) := by decide +kernel
theorem dX7_odds_21 : decode cX7_odds 21 = .ok (.ifCond .eq 11, 3) := by decide +kernel
theorem dX7_odds_24 : decode cX7_odds 24 = .ok (.iload 4, 2) := by decide +kernel
theorem dX7_odds_26 : decode cX7_odds 26 = .ok (.invokestatic 199, 3) := by decide +kernel
theorem dX7_odds_29 : decode cX7_odds 29 = .ok (.ifCond .ne 5, 3) := by decide +kernel
theorem dX7_odds_32 : decode cX7_odds 32 = .ok (.iconst (-1), 1) := by decide +kernel
theorem dX7_odds_33 : decode cX7_odds 33 = .ok (.ireturn, 1) := by decide +kernel
theorem dX7_odds_34 : decode cX7_odds 34 = .ok (.aload_n 0, 1) := by decide +kernel
theorem dX7_odds_35 : decode cX7_odds 35 = .ok (.iload_n 1, 1) := by decide +kernel
theorem dX7_odds_36 : decode cX7_odds 36 = .ok (.iload_n 3, 1) := by decide +kernel
theorem dX7_odds_37 : decode cX7_odds 37 = .ok (.invokevirtual 264, 3) := by decide +kernel
theorem dX7_odds_40 : decode cX7_odds 40 = .ok (.istore 5, 2) := by decide +kernel
theorem dX7_odds_42 : decode cX7_odds 42 = .ok (.iload 5, 2) := by decide +kernel
theorem dX7_odds_44 : decode cX7_odds 44 = .ok (.ifCond .ne 8, 3) := by decide +kernel
theorem dX7_odds_47 : decode cX7_odds 47 = .ok (.bipush (-3), 2) := by decide +kernel
theorem dX7_odds_49 : decode cX7_odds 49 = .ok (.goto 16, 3) := by decide +kernel
theorem dX7_odds_52 : decode cX7_odds 52 = .ok (.aload_n 0, 1) := by decide +kernel
theorem dX7_odds_53 : decode cX7_odds 53 = .ok (.getfield 41, 3) := by decide +kernel
theorem dX7_odds_56 : decode cX7_odds 56 = .ok (.iload_n 2, 1) := by decide +kernel
theorem dX7_odds_57 : decode cX7_odds 57 = .ok (.iaload, 1) := by decide +kernel
theorem dX7_odds_58 : decode cX7_odds 58 = .ok (.iload 5, 2) := by decide +kernel
theorem dX7_odds_60 : decode cX7_odds 60 = .ok (.iload 4, 2) := by decide +kernel
theorem dX7_odds_62 : decode cX7_odds 62 = .ok (.invokestatic 267, 3) := by decide +kernel
theorem dX7_odds_65 : decode cX7_odds 65 = .ok (.ireturn, 1) := by decide +kernel
theorem dX7_bet_0 : decode cX7_bet 0 = .ok (.iload_n 1, 1) := by decide +kernel
theorem dX7_bet_1 : decode cX7_bet 1 = .ok (.invokestatic 224, 3) := by decide +kernel
theorem dX7_bet_4 : decode cX7_bet 4 = .ok (.ifCond .eq 10, 3) := by decide +kernel
theorem dX7_bet_7 : decode cX7_bet 7 = .ok (.iload_n 2, 1) := by decide +kernel
theorem dX7_bet_8 : decode cX7_bet 8 = .ok (.invokestatic 249, 3) := by decide +kernel
theorem dX7_bet_11 : decode cX7_bet 11 = .ok (.ifCond .ne 5, 3) := by decide +kernel
theorem dX7_bet_14 : decode cX7_bet 14 = .ok (.iconst (-1), 1) := by decide +kernel
theorem dX7_bet_15 : decode cX7_bet 15 = .ok (.ireturn, 1) := by decide +kernel
theorem dX7_bet_16 : decode cX7_bet 16 = .ok (.aload_n 0, 1) := by decide +kernel
theorem dX7_bet_17 : decode cX7_bet 17 = .ok (.iload_n 1, 1) := by decide +kernel
theorem dX7_bet_18 : decode cX7_bet 18 = .ok (.iload_n 2, 1) := by decide +kernel
theorem dX7_bet_19 : decode cX7_bet 19 = .ok (.invokevirtual 264, 3) := by decide +kernel
theorem dX7_bet_22 : decode cX7_bet 22 = .ok (.ifCond .ne 6, 3) := by decide +kernel
theorem dX7_bet_25 : decode cX7_bet 25 = .ok (.bipush (-3), 2) := by decide +kernel
theorem dX7_bet_27 : decode cX7_bet 27 = .ok (.ireturn, 1) := by decide +kernel
theorem dX7_bet_28 : decode cX7_bet 28 = .ok (.iconst 0, 1) := by decide +kernel
theorem dX7_bet_29 : decode cX7_bet 29 = .ok (.istore_n 3, 1) := by decide +kernel
theorem dX7_bet_30 : decode cX7_bet 30 = .ok (.iconst 1, 1) := by decide +kernel
theorem dX7_bet_31 : decode cX7_bet 31 = .ok (.istore 4, 2) := by decide +kernel
theorem dX7_bet_33 : decode cX7_bet 33 = .ok (.iload 4, 2) := by decide +kernel
theorem dX7_bet_35 : decode cX7_bet 35 = .ok (.bipush 10, 2) := by decide +kernel
theorem dX7_bet_37 : decode cX7_bet 37 = .ok (.if_icmp .ge 32, 3) := by decide +kernel
theorem dX7_bet_40 : decode cX7_bet 40 = .ok (.aload_n 0, 1) := by decide +kernel
theorem dX7_bet_41 : decode cX7_bet 41 = .ok (.getfield 41, 3) := by decide +kernel
theorem dX7_bet_44 : decode cX7_bet 44 = .ok (.iload 4, 2) := by decide +kernel
theorem dX7_bet_46 : decode cX7_bet 46 = .ok (.iaload, 1) := by decide +kernel
theorem dX7_bet_47 : decode cX7_bet 47 = .ok (.aload_n 0, 1) := by decide +kernel
theorem dX7_bet_48 : decode cX7_bet 48 = .ok (.getfield 41, 3) := by decide +kernel
theorem dX7_bet_51 : decode cX7_bet 51 = .ok (.iload_n 3, 1) := by decide +kernel
theorem dX7_bet_52 : decode cX7_bet 52 = .ok (.iaload, 1) := by decide +kernel
theorem dX7_bet_53 : decode cX7_bet 53 = .ok (.if_icmp .le 8, 3) := by decide +kernel
theorem dX7_bet_56 : decode cX7_bet 56 = .ok (.iload 4, 2) := by decide +kernel
theorem dX7_bet_58 : decode cX7_bet 58 = .ok (.goto 4, 3) := by decide +kernel
theorem dX7_bet_61 : decode cX7_bet 61 = .ok (.iload_n 3, 1) := by decide +kernel
theorem dX7_bet_62 : decode cX7_bet 62 = .ok (.istore_n 3, 1) := by decide +kernel
theorem dX7_bet_63 : decode cX7_bet 63 = .ok (.iinc 4 1, 3) := by decide +kernel
theorem dX7_bet_66 : decode cX7_bet 66 = .ok (.goto (-33), 3) := by decide +kernel
theorem dX7_bet_69 : decode cX7_bet 69 = .ok (.iload_n 3, 1) := by decide +kernel
theorem dX7_bet_70 : decode cX7_bet 70 = .ok (.ireturn, 1) := by decide +kernel
theorem dX7_hard_0 : decode cX7_hard 0 = .ok (.iload_n 1, 1) := by decide +kernel
theorem dX7_hard_1 : decode cX7_hard 1 = .ok (.invokestatic 224, 3) := by decide +kernel
theorem dX7_hard_4 : decode cX7_hard 4 = .ok (.ifCond .eq 10, 3) := by decide +kernel
theorem dX7_hard_7 : decode cX7_hard 7 = .ok (.iload_n 2, 1) := by decide +kernel
theorem dX7_hard_8 : decode cX7_hard 8 = .ok (.invokestatic 249, 3) := by decide +kernel
theorem dX7_hard_11 : decode cX7_hard 11 = .ok (.ifCond .ne 5, 3) := by decide +kernel
theorem dX7_hard_14 : decode cX7_hard 14 = .ok (.iconst (-1), 1) := by decide +kernel
theorem dX7_hard_15 : decode cX7_hard 15 = .ok (.ireturn, 1) := by decide +kernel
theorem dX7_hard_16 : decode cX7_hard 16 = .ok (.aload_n 0, 1) := by decide +kernel
theorem dX7_hard_17 : decode cX7_hard 17 = .ok (.iload_n 1, 1) := by decide +kernel
theorem dX7_hard_18 : decode cX7_hard 18 = .ok (.iload_n 2, 1) := by decide +kernel
theorem dX7_hard_19 : decode cX7_hard 19 = .ok (.invokevirtual 264, 3) := by decide +kernel
theorem dX7_hard_22 : decode cX7_hard 22 = .ok (.ifCond .ne 6, 3) := by decide +kernel
theorem dX7_hard_25 : decode cX7_hard 25 = .ok (.bipush (-3), 2) := by decide +kernel
theorem dX7_hard_27 : decode cX7_hard 27 = .ok (.ireturn, 1) := by decide +kernel
theorem dX7_hard_28 : decode cX7_hard 28 = .ok (.iconst 0, 1) := by decide +kernel
theorem dX7_hard_29 : decode cX7_hard 29 = .ok (.istore_n 3, 1) := by decide +kernel
theorem dX7_hard_30 : decode cX7_hard 30 = .ok (.iconst 1, 1) := by decide +kernel
theorem dX7_hard_31 : decode cX7_hard 31 = .ok (.istore 4, 2) := by decide +kernel
theorem dX7_hard_33 : decode cX7_hard 33 = .ok (.iload 4, 2) := by decide +kernel
theorem dX7_hard_35 : decode cX7_hard 35 = .ok (.aload_n 0, 1) := by decide +kernel
theorem dX7_hard_36 : decode cX7_hard 36 = .ok (.getfield 19, 3) := by decide +kernel
theorem dX7_hard_39 : decode cX7_hard 39 = .ok (.if_icmp .ge 32, 3) := by decide +kernel
theorem dX7_hard_42 : decode cX7_hard 42 = .ok (.aload_n 0, 1) := by decide +kernel
theorem dX7_hard_43 : decode cX7_hard 43 = .ok (.getfield 41, 3) := by decide +kernel
theorem dX7_hard_46 : decode cX7_hard 46 = .ok (.iload 4, 2) := by decide +kernel
theorem dX7_hard_48 : decode cX7_hard 48 = .ok (.iaload, 1) := by decide +kernel
theorem dX7_hard_49 : decode cX7_hard 49 = .ok (.aload_n 0, 1) := by decide +kernel
theorem dX7_hard_50 : decode cX7_hard 50 = .ok (.getfield 41, 3) := by decide +kernel
theorem dX7_hard_53 : decode cX7_hard 53 = .ok (.iload_n 3, 1) := by decide +kernel
theorem dX7_hard_54 : decode cX7_hard 54 = .ok (.iaload, 1) := by decide +kernel
theorem dX7_hard_55 : decode cX7_hard 55 = .ok (.if_icmp .ge 8, 3) := by decide +kernel
theorem dX7_hard_58 : decode cX7_hard 58 = .ok (.iload 4, 2) := by decide +kernel
theorem dX7_hard_60 : decode cX7_hard 60 = .ok (.goto 4, 3) := by decide +kernel
theorem dX7_hard_63 : decode cX7_hard 63 = .ok (.iload_n 3, 1) := by decide +kernel
theorem dX7_hard_64 : decode cX7_hard 64 = .ok (.istore_n 3, 1) := by decide +kernel
theorem dX7_hard_65 : decode cX7_hard 65 = .ok (.iinc 4 1, 3) := by decide +kernel
theorem dX7_hard_68 : decode cX7_hard 68 = .ok (.goto (-35), 3) := by decide +kernel
theorem dX7_hard_71 : decode cX7_hard 71 = .ok (.iload_n 3, 1) := by decide +kernel
theorem dX7_hard_72 : decode cX7_hard 72 = .ok (.ireturn, 1) := by decide +kernel
theorem dX7_sure_0 : decode cX7_sure 0 = .ok (.iload_n 1, 1) := by decide +kernel
theorem dX7_sure_1 : decode cX7_sure 1 = .ok (.invokestatic 224, 3) := by decide +kernel
theorem dX7_sure_4 : decode cX7_sure 4 = .ok (.ifCond .eq 10, 3) := by decide +kernel
theorem dX7_sure_7 : decode cX7_sure 7 = .ok (.iload_n 2, 1) := by decide +kernel
theorem dX7_sure_8 : decode cX7_sure 8 = .ok (.invokestatic 249, 3) := by decide +kernel
theorem dX7_sure_11 : decode cX7_sure 11 = .ok (.ifCond .ne 5, 3) := by decide +kernel
theorem dX7_sure_14 : decode cX7_sure 14 = .ok (.iconst (-1), 1) := by decide +kernel
theorem dX7_sure_15 : decode cX7_sure 15 = .ok (.ireturn, 1) := by decide +kernel
theorem dX7_sure_16 : decode cX7_sure 16 = .ok (.aload_n 0, 1) := by decide +kernel
theorem dX7_sure_17 : decode cX7_sure 17 = .ok (.iload_n 1, 1) := by decide +kernel
theorem dX7_sure_18 : decode cX7_sure 18 = .ok (.iload_n 2, 1) := by decide +kernel
theorem dX7_sure_19 : decode cX7_sure 19 = .ok (.invokevirtual 264, 3) := by decide +kernel
theorem dX7_sure_22 : decode cX7_sure 22 = .ok (.istore_n 3, 1) := by decide +kernel
theorem dX7_sure_23 : decode cX7_sure 23 = .ok (.bipush (-3), 2) := by decide +kernel
theorem dX7_sure_25 : decode cX7_sure 25 = .ok (.istore 4, 2) := by decide +kernel
theorem dX7_sure_27 : decode cX7_sure 27 = .ok (.iconst 0, 1) := by decide +kernel
theorem dX7_sure_28 : decode cX7_sure 28 = .ok (.istore 5, 2) := by decide +kernel
theorem dX7_sure_30 : decode cX7_sure 30 = .ok (.iload 5, 2) := by decide +kernel
theorem dX7_sure_32 : decode cX7_sure 32 = .ok (.bipush 10, 2) := by decide +kernel
theorem dX7_sure_34 : decode cX7_sure 34 = .ok (.if_icmp .ge 33, 3) := by decide +kernel
theorem dX7_sure_37 : decode cX7_sure 37 = .ok (.iload_n 3, 1) := by decide +kernel
theorem dX7_sure_38 : decode cX7_sure 38 = .ok (.ifCond .le 19, 3) := by decide +kernel
theorem dX7_sure_41 : decode cX7_sure 41 = .ok (.aload_n 0, 1) := by decide +kernel
theorem dX7_sure_42 : decode cX7_sure 42 = .ok (.getfield 41, 3) := by decide +kernel
theorem dX7_sure_45 : decode cX7_sure 45 = .ok (.iload 5, 2) := by decide +kernel
theorem dX7_sure_47 : decode cX7_sure 47 = .ok (.iaload, 1) := by decide +kernel
theorem dX7_sure_48 : decode cX7_sure 48 = .ok (.iload_n 3, 1) := by decide +kernel
theorem dX7_sure_49 : decode cX7_sure 49 = .ok (.if_icmp .ne 8, 3) := by decide +kernel
theorem dX7_sure_52 : decode cX7_sure 52 = .ok (.iload 5, 2) := by decide +kernel
theorem dX7_sure_54 : decode cX7_sure 54 = .ok (.goto 5, 3) := by decide +kernel
theorem dX7_sure_57 : decode cX7_sure 57 = .ok (.iload 4, 2) := by decide +kernel
theorem dX7_sure_59 : decode cX7_sure 59 = .ok (.istore 4, 2) := by decide +kernel
theorem dX7_sure_61 : decode cX7_sure 61 = .ok (.iinc 5 1, 3) := by decide +kernel
theorem dX7_sure_64 : decode cX7_sure 64 = .ok (.goto (-34), 3) := by decide +kernel
theorem dX7_sure_67 : decode cX7_sure 67 = .ok (.iload 4, 2) := by decide +kernel
theorem dX7_sure_69 : decode cX7_sure 69 = .ok (.ireturn, 1) := by decide +kernel
theorem dX7_fewestWords_0 : decode cX7_fewestWords 0 = .ok (.aload_n 0, 1) := by decide +kernel
theorem dX7_fewestWords_1 : decode cX7_fewestWords 1 = .ok (.iload_n 1, 1) := by decide +kernel
theorem dX7_fewestWords_2 : decode cX7_fewestWords 2 = .ok (.invokevirtual 258, 3) := by decide +kernel
theorem dX7_fewestWords_5 : decode cX7_fewestWords 5 = .ok (.istore_n 2, 1) := by decide +kernel
theorem dX7_fewestWords_6 : decode cX7_fewestWords 6 = .ok (.iload_n 2, 1) := by decide +kernel
theorem dX7_fewestWords_7 : decode cX7_fewestWords 7 = .ok (.ifCond .ge 8, 3) := by decide +kernel
theorem dX7_fewestWords_10 : decode cX7_fewestWords 10 = .ok (.bipush 9, 2) := by decide +kernel
theorem dX7_fewestWords_12 : decode cX7_fewestWords 12 = .ok (.goto 7, 3) := by decide +kernel
theorem dX7_fewestWords_15 : decode cX7_fewestWords 15 = .ok (.iload_n 2, 1) := by decide +kernel
theorem dX7_fewestWords_16 : decode cX7_fewestWords 16 = .ok (.invokestatic 255, 3) := by decide +kernel
theorem dX7_fewestWords_19 : decode cX7_fewestWords 19 = .ok (.ireturn, 1) := by decide +kernel
theorem dX7_leave_0 : decode cX7_leave 0 = .ok (.iload_n 1, 1) := by decide +kernel
theorem dX7_leave_1 : decode cX7_leave 1 = .ok (.invokestatic 249, 3) := by decide +kernel
theorem dX7_leave_4 : decode cX7_leave 4 = .ok (.ifCond .ne 5, 3) := by decide +kernel
theorem dX7_leave_7 : decode cX7_leave 7 = .ok (.iconst (-1), 1) := by decide +kernel
theorem dX7_leave_8 : decode cX7_leave 8 = .ok (.ireturn, 1) := by decide +kernel
theorem dX7_leave_9 : decode cX7_leave 9 = .ok (.aload_n 0, 1) := by decide +kernel
theorem dX7_leave_10 : decode cX7_leave 10 = .ok (.iload_n 1, 1) := by decide +kernel
theorem dX7_leave_11 : decode cX7_leave 11 = .ok (.invokevirtual 270, 3) := by decide +kernel
theorem dX7_leave_14 : decode cX7_leave 14 = .ok (.istore_n 2, 1) := by decide +kernel
theorem dX7_leave_15 : decode cX7_leave 15 = .ok (.bipush (-3), 2) := by decide +kernel
theorem dX7_leave_17 : decode cX7_leave 17 = .ok (.istore_n 3, 1) := by decide +kernel
theorem dX7_leave_18 : decode cX7_leave 18 = .ok (.iconst 0, 1) := by decide +kernel
theorem dX7_leave_19 : decode cX7_leave 19 = .ok (.istore 4, 2) := by decide +kernel
theorem dX7_leave_21 : decode cX7_leave 21 = .ok (.iload 4, 2) := by decide +kernel
theorem dX7_leave_23 : decode cX7_leave 23 = .ok (.bipush 24, 2) := by decide +kernel
theorem dX7_leave_25 : decode cX7_leave 25 = .ok (.if_icmp .ge 73, 3) := by decide +kernel
theorem dX7_leave_28 : decode cX7_leave 28 = .ok (.aload_n 0, 1) := by decide +kernel
theorem dX7_leave_29 : decode cX7_leave 29 = .ok (.getfield 7, 3) := by decide +kernel
theorem dX7_leave_32 : decode cX7_leave 32 = .ok (.iload 4, 2) := by decide +kernel
theorem dX7_leave_34 : decode cX7_leave 34 = .ok (.iaload, 1) := by decide +kernel
theorem dX7_leave_35 : decode cX7_leave 35 = .ok (.istore 5, 2) := by decide +kernel
theorem dX7_leave_37 : decode cX7_leave 37 = .ok (.iload 5, 2) := by decide +kernel
theorem dX7_leave_39 : decode cX7_leave 39 = .ok (.ifCond .lt 53, 3) := by decide +kernel
theorem dX7_leave_42 : decode cX7_leave 42 = .ok (.aload_n 0, 1) := by decide +kernel
theorem dX7_leave_43 : decode cX7_leave 43 = .ok (.getfield 7, 3) := by decide +kernel
theorem dX7_leave_46 : decode cX7_leave 46 = .ok (.iload 4, 2) := by decide +kernel
theorem dX7_leave_48 : decode cX7_leave 48 = .ok (.iconst (-1), 1) := by decide +kernel
theorem dX7_leave_49 : decode cX7_leave 49 = .ok (.iastore, 1) := by decide +kernel
theorem dX7_leave_50 : decode cX7_leave 50 = .ok (.aload_n 0, 1) := by decide +kernel
theorem dX7_leave_51 : decode cX7_leave 51 = .ok (.iload_n 1, 1) := by decide +kernel
theorem dX7_leave_52 : decode cX7_leave 52 = .ok (.invokevirtual 270, 3) := by decide +kernel
theorem dX7_leave_55 : decode cX7_leave 55 = .ok (.istore 6, 2) := by decide +kernel
theorem dX7_leave_57 : decode cX7_leave 57 = .ok (.aload_n 0, 1) := by decide +kernel
theorem dX7_leave_58 : decode cX7_leave 58 = .ok (.getfield 7, 3) := by decide +kernel
theorem dX7_leave_61 : decode cX7_leave 61 = .ok (.iload 4, 2) := by decide +kernel
theorem dX7_leave_63 : decode cX7_leave 63 = .ok (.iload 5, 2) := by decide +kernel
theorem dX7_leave_65 : decode cX7_leave 65 = .ok (.iastore, 1) := by decide +kernel
theorem dX7_leave_66 : decode cX7_leave 66 = .ok (.iload 6, 2) := by decide +kernel
theorem dX7_leave_68 : decode cX7_leave 68 = .ok (.iload_n 2, 1) := by decide +kernel
theorem dX7_leave_69 : decode cX7_leave 69 = .ok (.if_icmp .ge 8, 3) := by decide +kernel
theorem dX7_leave_72 : decode cX7_leave 72 = .ok (.iload 4, 2) := by decide +kernel
theorem dX7_leave_74 : decode cX7_leave 74 = .ok (.goto 4, 3) := by decide +kernel
theorem dX7_leave_77 : decode cX7_leave 77 = .ok (.iload_n 3, 1) := by decide +kernel
theorem dX7_leave_78 : decode cX7_leave 78 = .ok (.istore_n 3, 1) := by decide +kernel
theorem dX7_leave_79 : decode cX7_leave 79 = .ok (.iload 6, 2) := by decide +kernel
theorem dX7_leave_81 : decode cX7_leave 81 = .ok (.iload_n 2, 1) := by decide +kernel
theorem dX7_leave_82 : decode cX7_leave 82 = .ok (.if_icmp .ge 8, 3) := by decide +kernel
theorem dX7_leave_85 : decode cX7_leave 85 = .ok (.iload 6, 2) := by decide +kernel
theorem dX7_leave_87 : decode cX7_leave 87 = .ok (.goto 4, 3) := by decide +kernel
theorem dX7_leave_90 : decode cX7_leave 90 = .ok (.iload_n 2, 1) := by decide +kernel
theorem dX7_leave_91 : decode cX7_leave 91 = .ok (.istore_n 2, 1) := by decide +kernel
theorem dX7_leave_92 : decode cX7_leave 92 = .ok (.iinc 4 1, 3) := by decide +kernel
theorem dX7_leave_95 : decode cX7_leave 95 = .ok (.goto (-74), 3) := by decide +kernel
theorem dX7_leave_98 : decode cX7_leave 98 = .ok (.iload_n 3, 1) := by decide +kernel
theorem dX7_leave_99 : decode cX7_leave 99 = .ok (.ireturn, 1) := by decide +kernel
theorem dX7_apart_0 : decode cX7_apart 0 = .ok (.iload_n 1, 1) := by decide +kernel
theorem dX7_apart_1 : decode cX7_apart 1 = .ok (.iload_n 2, 1) := by decide +kernel
theorem dX7_apart_2 : decode cX7_apart 2 = .ok (.if_icmp .ge 9, 3) := by decide +kernel
theorem dX7_apart_5 : decode cX7_apart 5 = .ok (.iload_n 2, 1) := by decide +kernel
theorem dX7_apart_6 : decode cX7_apart 6 = .ok (.iload_n 1, 1) := by decide +kernel
theorem dX7_apart_7 : decode cX7_apart 7 = .ok (.isub, 1) := by decide +kernel
theorem dX7_apart_8 : decode cX7_apart 8 = .ok (.goto 6, 3) := by decide +kernel
theorem dX7_apart_11 : decode cX7_apart 11 = .ok (.iload_n 1, 1) := by decide +kernel
theorem dX7_apart_12 : decode cX7_apart 12 = .ok (.iload_n 2, 1) := by decide +kernel
theorem dX7_apart_13 : decode cX7_apart 13 = .ok (.isub, 1) := by decide +kernel
theorem dX7_apart_14 : decode cX7_apart 14 = .ok (.istore_n 3, 1) := by decide +kernel
theorem dX7_apart_15 : decode cX7_apart 15 = .ok (.aload_n 0, 1) := by decide +kernel
theorem dX7_apart_16 : decode cX7_apart 16 = .ok (.getfield 19, 3) := by decide +kernel
theorem dX7_apart_19 : decode cX7_apart 19 = .ok (.iload_n 3, 1) := by decide +kernel
theorem dX7_apart_20 : decode cX7_apart 20 = .ok (.isub, 1) := by decide +kernel
theorem dX7_apart_21 : decode cX7_apart 21 = .ok (.iload_n 3, 1) := by decide +kernel
theorem dX7_apart_22 : decode cX7_apart 22 = .ok (.if_icmp .ge 12, 3) := by decide +kernel
theorem dX7_apart_25 : decode cX7_apart 25 = .ok (.aload_n 0, 1) := by decide +kernel
theorem dX7_apart_26 : decode cX7_apart 26 = .ok (.getfield 19, 3) := by decide +kernel
theorem dX7_apart_29 : decode cX7_apart 29 = .ok (.iload_n 3, 1) := by decide +kernel
theorem dX7_apart_30 : decode cX7_apart 30 = .ok (.isub, 1) := by decide +kernel
theorem dX7_apart_31 : decode cX7_apart 31 = .ok (.goto 4, 3) := by decide +kernel
theorem dX7_apart_34 : decode cX7_apart 34 = .ok (.iload_n 3, 1) := by decide +kernel
theorem dX7_apart_35 : decode cX7_apart 35 = .ok (.ireturn, 1) := by decide +kernel
theorem dX7_camp_0 : decode cX7_camp 0 = .ok (.iload_n 1, 1) := by decide +kernel
theorem dX7_camp_1 : decode cX7_camp 1 = .ok (.invokestatic 224, 3) := by decide +kernel
theorem dX7_camp_4 : decode cX7_camp 4 = .ok (.ifCond .eq 10, 3) := by decide +kernel
theorem dX7_camp_7 : decode cX7_camp 7 = .ok (.iload_n 2, 1) := by decide +kernel
theorem dX7_camp_8 : decode cX7_camp 8 = .ok (.invokestatic 249, 3) := by decide +kernel
theorem dX7_camp_11 : decode cX7_camp 11 = .ok (.ifCond .ne 5, 3) := by decide +kernel
theorem dX7_camp_14 : decode cX7_camp 14 = .ok (.iconst (-1), 1) := by decide +kernel
theorem dX7_camp_15 : decode cX7_camp 15 = .ok (.ireturn, 1) := by decide +kernel
theorem dX7_camp_16 : decode cX7_camp 16 = .ok (.aload_n 0, 1) := by decide +kernel
theorem dX7_camp_17 : decode cX7_camp 17 = .ok (.iload_n 1, 1) := by decide +kernel
theorem dX7_camp_18 : decode cX7_camp 18 = .ok (.iload_n 2, 1) := by decide +kernel
theorem dX7_camp_19 : decode cX7_camp 19 = .ok (.invokevirtual 264, 3) := by decide +kernel
theorem dX7_camp_22 : decode cX7_camp 22 = .ok (.ifCond .ne 6, 3) := by decide +kernel
theorem dX7_camp_25 : decode cX7_camp 25 = .ok (.bipush (-3), 2) := by decide +kernel
theorem dX7_camp_27 : decode cX7_camp 27 = .ok (.ireturn, 1) := by decide +kernel
theorem dX7_camp_28 : decode cX7_camp 28 = .ok (.iconst (-1), 1) := by decide +kernel
theorem dX7_camp_29 : decode cX7_camp 29 = .ok (.istore_n 3, 1) := by decide +kernel
theorem dX7_camp_30 : decode cX7_camp 30 = .ok (.iconst 0, 1) := by decide +kernel
theorem dX7_camp_31 : decode cX7_camp 31 = .ok (.istore 4, 2) := by decide +kernel
theorem dX7_camp_33 : decode cX7_camp 33 = .ok (.iconst 0, 1) := by decide +kernel
theorem dX7_camp_34 : decode cX7_camp 34 = .ok (.istore 5, 2) := by decide +kernel
theorem dX7_camp_36 : decode cX7_camp 36 = .ok (.iload 5, 2) := by decide +kernel
theorem dX7_camp_38 : decode cX7_camp 38 = .ok (.aload_n 0, 1) := by decide +kernel
theorem dX7_camp_39 : decode cX7_camp 39 = .ok (.getfield 19, 3) := by decide +kernel
theorem dX7_camp_42 : decode cX7_camp 42 = .ok (.if_icmp .ge 69, 3) := by decide +kernel
theorem dX7_camp_45 : decode cX7_camp 45 = .ok (.iconst 0, 1) := by decide +kernel
theorem dX7_camp_46 : decode cX7_camp 46 = .ok (.istore 6, 2) := by decide +kernel
theorem dX7_camp_48 : decode cX7_camp 48 = .ok (.iconst 0, 1) := by decide +kernel
theorem dX7_camp_49 : decode cX7_camp 49 = .ok (.istore 7, 2) := by decide +kernel
theorem dX7_camp_51 : decode cX7_camp 51 = .ok (.iload 7, 2) := by decide +kernel
theorem dX7_camp_53 : decode cX7_camp 53 = .ok (.aload_n 0, 1) := by decide +kernel
theorem dX7_camp_54 : decode cX7_camp 54 = .ok (.getfield 19, 3) := by decide +kernel
theorem dX7_camp_57 : decode cX7_camp 57 = .ok (.if_icmp .ge 30, 3) := by decide +kernel
theorem dX7_camp_60 : decode cX7_camp 60 = .ok (.iload 6, 2) := by decide +kernel
theorem dX7_camp_62 : decode cX7_camp 62 = .ok (.aload_n 0, 1) := by decide +kernel
theorem dX7_camp_63 : decode cX7_camp 63 = .ok (.getfield 41, 3) := by decide +kernel
theorem dX7_camp_66 : decode cX7_camp 66 = .ok (.iload 7, 2) := by decide +kernel
theorem dX7_camp_68 : decode cX7_camp 68 = .ok (.iaload, 1) := by decide +kernel
theorem dX7_camp_69 : decode cX7_camp 69 = .ok (.aload_n 0, 1) := by decide +kernel
theorem dX7_camp_70 : decode cX7_camp 70 = .ok (.iload 5, 2) := by decide +kernel
theorem dX7_camp_72 : decode cX7_camp 72 = .ok (.iload 7, 2) := by decide +kernel
theorem dX7_camp_74 : decode cX7_camp 74 = .ok (.invokevirtual 273, 3) := by decide +kernel
theorem dX7_camp_77 : decode cX7_camp 77 = .ok (.imul, 1) := by decide +kernel
theorem dX7_camp_78 : decode cX7_camp 78 = .ok (.iadd, 1) := by decide +kernel
theorem dX7_camp_79 : decode cX7_camp 79 = .ok (.istore 6, 2) := by decide +kernel
theorem dX7_camp_81 : decode cX7_camp 81 = .ok (.iinc 7 1, 3) := by decide +kernel
theorem dX7_camp_84 : decode cX7_camp 84 = .ok (.goto (-33), 3) := by decide +kernel
theorem dX7_camp_87 : decode cX7_camp 87 = .ok (.iload_n 3, 1) := by decide +kernel
theorem dX7_camp_88 : decode cX7_camp 88 = .ok (.ifCond .lt 10, 3) := by decide +kernel
theorem dX7_camp_91 : decode cX7_camp 91 = .ok (.iload 6, 2) := by decide +kernel
theorem dX7_camp_93 : decode cX7_camp 93 = .ok (.iload 4, 2) := by decide +kernel
theorem dX7_camp_95 : decode cX7_camp 95 = .ok (.if_icmp .ge 10, 3) := by decide +kernel
theorem dX7_camp_98 : decode cX7_camp 98 = .ok (.iload 5, 2) := by decide +kernel
theorem dX7_camp_100 : decode cX7_camp 100 = .ok (.istore_n 3, 1) := by decide +kernel
theorem dX7_camp_101 : decode cX7_camp 101 = .ok (.iload 6, 2) := by decide +kernel
theorem dX7_camp_103 : decode cX7_camp 103 = .ok (.istore 4, 2) := by decide +kernel
theorem dX7_camp_105 : decode cX7_camp 105 = .ok (.iinc 5 1, 3) := by decide +kernel
theorem dX7_camp_108 : decode cX7_camp 108 = .ok (.goto (-72), 3) := by decide +kernel
theorem dX7_camp_111 : decode cX7_camp 111 = .ok (.iload_n 3, 1) := by decide +kernel
theorem dX7_camp_112 : decode cX7_camp 112 = .ok (.ireturn, 1) := by decide +kernel
theorem dX7_seed_0 : decode cX7_seed 0 = .ok (.aload_n 0, 1) := by decide +kernel
theorem dX7_seed_1 : decode cX7_seed 1 = .ok (.getfield 26, 3) := by decide +kernel
theorem dX7_seed_4 : decode cX7_seed 4 = .ok (.istore_n 2, 1) := by decide +kernel
theorem dX7_seed_5 : decode cX7_seed 5 = .ok (.aload_n 0, 1) := by decide +kernel
theorem dX7_seed_6 : decode cX7_seed 6 = .ok (.iload_n 1, 1) := by decide +kernel
theorem dX7_seed_7 : decode cX7_seed 7 = .ok (.putfield 26, 3) := by decide +kernel
theorem dX7_seed_10 : decode cX7_seed 10 = .ok (.iload_n 2, 1) := by decide +kernel
theorem dX7_seed_11 : decode cX7_seed 11 = .ok (.ireturn, 1) := by decide +kernel
theorem dX7_draw_0 : decode cX7_draw 0 = .ok (.iload_n 1, 1) := by decide +kernel
theorem dX7_draw_1 : decode cX7_draw 1 = .ok (.invokestatic 224, 3) := by decide +kernel
theorem dX7_draw_4 : decode cX7_draw 4 = .ok (.ifCond .eq 10, 3) := by decide +kernel
theorem dX7_draw_7 : decode cX7_draw 7 = .ok (.iload_n 2, 1) := by decide +kernel
theorem dX7_draw_8 : decode cX7_draw 8 = .ok (.invokestatic 249, 3) := by decide +kernel
theorem dX7_draw_11 : decode cX7_draw 11 = .ok (.ifCond .ne 5, 3) := by decide +kernel
theorem dX7_draw_14 : decode cX7_draw 14 = .ok (.iconst (-1), 1) := by decide +kernel
theorem dX7_draw_15 : decode cX7_draw 15 = .ok (.ireturn, 1) := by decide +kernel
theorem dX7_draw_16 : decode cX7_draw 16 = .ok (.aload_n 0, 1) := by decide +kernel
theorem dX7_draw_17 : decode cX7_draw 17 = .ok (.iload_n 1, 1) := by decide +kernel
theorem dX7_draw_18 : decode cX7_draw 18 = .ok (.iload_n 2, 1) := by decide +kernel
theorem dX7_draw_19 : decode cX7_draw 19 = .ok (.invokevirtual 264, 3) := by decide +kernel
theorem dX7_draw_22 : decode cX7_draw 22 = .ok (.istore_n 3, 1) := by decide +kernel
theorem dX7_draw_23 : decode cX7_draw 23 = .ok (.iload_n 3, 1) := by decide +kernel
theorem dX7_draw_24 : decode cX7_draw 24 = .ok (.ifCond .ne 6, 3) := by decide +kernel
theorem dX7_draw_27 : decode cX7_draw 27 = .ok (.bipush (-3), 2) := by decide +kernel
theorem dX7_draw_29 : decode cX7_draw 29 = .ok (.ireturn, 1) := by decide +kernel
theorem dX7_draw_30 : decode cX7_draw 30 = .ok (.aload_n 0, 1) := by decide +kernel
theorem dX7_draw_31 : decode cX7_draw 31 = .ok (.aload_n 0, 1) := by decide +kernel
theorem dX7_draw_32 : decode cX7_draw 32 = .ok (.getfield 26, 3) := by decide +kernel
theorem dX7_draw_35 : decode cX7_draw 35 = .ok (.ldc_w 276, 3) := by decide +kernel
theorem dX7_draw_38 : decode cX7_draw 38 = .ok (.imul, 1) := by decide +kernel
theorem dX7_draw_39 : decode cX7_draw 39 = .ok (.sipush 12345, 3) := by decide +kernel
theorem dX7_draw_42 : decode cX7_draw 42 = .ok (.iadd, 1) := by decide +kernel
theorem dX7_draw_43 : decode cX7_draw 43 = .ok (.putfield 26, 3) := by decide +kernel
theorem dX7_draw_46 : decode cX7_draw 46 = .ok (.aload_n 0, 1) := by decide +kernel
theorem dX7_draw_47 : decode cX7_draw 47 = .ok (.getfield 26, 3) := by decide +kernel
theorem dX7_draw_50 : decode cX7_draw 50 = .ok (.bipush 16, 2) := by decide +kernel
theorem dX7_draw_52 : decode cX7_draw 52 = .ok (.iushr, 1) := by decide +kernel
theorem dX7_draw_53 : decode cX7_draw 53 = .ok (.iload_n 3, 1) := by decide +kernel
theorem dX7_draw_54 : decode cX7_draw 54 = .ok (.irem, 1) := by decide +kernel
theorem dX7_draw_55 : decode cX7_draw 55 = .ok (.istore 4, 2) := by decide +kernel
theorem dX7_draw_57 : decode cX7_draw 57 = .ok (.iconst 0, 1) := by decide +kernel
theorem dX7_draw_58 : decode cX7_draw 58 = .ok (.istore 5, 2) := by decide +kernel
theorem dX7_draw_60 : decode cX7_draw 60 = .ok (.aload_n 0, 1) := by decide +kernel
theorem dX7_draw_61 : decode cX7_draw 61 = .ok (.getfield 44, 3) := by decide +kernel
theorem dX7_draw_64 : decode cX7_draw 64 = .ok (.iload 5, 2) := by decide +kernel
theorem dX7_draw_66 : decode cX7_draw 66 = .ok (.iaload, 1) := by decide +kernel
theorem dX7_draw_67 : decode cX7_draw 67 = .ok (.ifCond .lt 13, 3) := by decide +kernel
theorem dX7_draw_70 : decode cX7_draw 70 = .ok (.iload 4, 2) := by decide +kernel
theorem dX7_draw_72 : decode cX7_draw 72 = .ok (.iload 5, 2) := by decide +kernel
theorem dX7_draw_74 : decode cX7_draw 74 = .ok (.invokestatic 261, 3) := by decide +kernel
theorem dX7_draw_77 : decode cX7_draw 77 = .ok (.if_icmp .lt 33, 3) := by decide +kernel
theorem dX7_draw_80 : decode cX7_draw 80 = .ok (.iload 4, 2) := by decide +kernel
theorem dX7_draw_82 : decode cX7_draw 82 = .ok (.aload_n 0, 1) := by decide +kernel
theorem dX7_draw_83 : decode cX7_draw 83 = .ok (.getfield 44, 3) := by decide +kernel
theorem dX7_draw_86 : decode cX7_draw 86 = .ok (.iload 5, 2) := by decide +kernel
theorem dX7_draw_88 : decode cX7_draw 88 = .ok (.iaload, 1) := by decide +kernel
theorem dX7_draw_89 : decode cX7_draw 89 = .ok (.ifCond .ge 7, 3) := by decide +kernel
theorem dX7_draw_92 : decode cX7_draw 92 = .ok (.iconst 0, 1) := by decide +kernel
theorem dX7_draw_93 : decode cX7_draw 93 = .ok (.goto 8, 3) := by decide +kernel
theorem dX7_draw_96 : decode cX7_draw 96 = .ok (.iload 5, 2) := by decide +kernel
theorem dX7_draw_98 : decode cX7_draw 98 = .ok (.invokestatic 261, 3) := by decide +kernel
theorem dX7_draw_101 : decode cX7_draw 101 = .ok (.isub, 1) := by decide +kernel
theorem dX7_draw_102 : decode cX7_draw 102 = .ok (.istore 4, 2) := by decide +kernel
theorem dX7_draw_104 : decode cX7_draw 104 = .ok (.iinc 5 1, 3) := by decide +kernel
theorem dX7_draw_107 : decode cX7_draw 107 = .ok (.goto (-47), 3) := by decide +kernel
theorem dX7_draw_110 : decode cX7_draw 110 = .ok (.aload_n 0, 1) := by decide +kernel
theorem dX7_draw_111 : decode cX7_draw 111 = .ok (.getfield 44, 3) := by decide +kernel
theorem dX7_draw_114 : decode cX7_draw 114 = .ok (.iload 5, 2) := by decide +kernel
theorem dX7_draw_116 : decode cX7_draw 116 = .ok (.iaload, 1) := by decide +kernel
theorem dX7_draw_117 : decode cX7_draw 117 = .ok (.ireturn, 1) := by decide +kernel
theorem dX7_findRows_0 : decode cX7_findRows 0 = .ok (.aload_n 0, 1) := by decide +kernel
theorem dX7_findRows_1 : decode cX7_findRows 1 = .ok (.iconst 0, 1) := by decide +kernel
theorem dX7_findRows_2 : decode cX7_findRows 2 = .ok (.putfield 277, 3) := by decide +kernel
theorem dX7_findRows_5 : decode cX7_findRows 5 = .ok (.iconst 0, 1) := by decide +kernel
theorem dX7_findRows_6 : decode cX7_findRows 6 = .ok (.istore_n 2, 1) := by decide +kernel
theorem dX7_findRows_7 : decode cX7_findRows 7 = .ok (.iload_n 2, 1) := by decide +kernel
theorem dX7_findRows_8 : decode cX7_findRows 8 = .ok (.bipush 24, 2) := by decide +kernel
theorem dX7_findRows_10 : decode cX7_findRows 10 = .ok (.if_icmp .ge 93, 3) := by decide +kernel
theorem dX7_findRows_13 : decode cX7_findRows 13 = .ok (.aload_n 0, 1) := by decide +kernel
theorem dX7_findRows_14 : decode cX7_findRows 14 = .ok (.getfield 7, 3) := by decide +kernel
theorem dX7_findRows_17 : decode cX7_findRows 17 = .ok (.iload_n 2, 1) := by decide +kernel
theorem dX7_findRows_18 : decode cX7_findRows 18 = .ok (.iaload, 1) := by decide +kernel
theorem dX7_findRows_19 : decode cX7_findRows 19 = .ok (.ifCond .lt 78, 3) := by decide +kernel
theorem dX7_findRows_22 : decode cX7_findRows 22 = .ok (.aload_n 0, 1) := by decide +kernel
theorem dX7_findRows_23 : decode cX7_findRows 23 = .ok (.iload_n 1, 1) := by decide +kernel
theorem dX7_findRows_24 : decode cX7_findRows 24 = .ok (.iload_n 2, 1) := by decide +kernel
theorem dX7_findRows_25 : decode cX7_findRows 25 = .ok (.aload_n 0, 1) := by decide +kernel
theorem dX7_findRows_26 : decode cX7_findRows 26 = .ok (.getfield 7, 3) := by decide +kernel
theorem dX7_findRows_29 : decode cX7_findRows 29 = .ok (.invokevirtual 227, 3) := by decide +kernel
theorem dX7_findRows_32 : decode cX7_findRows 32 = .ok (.istore_n 3, 1) := by decide +kernel
theorem dX7_findRows_33 : decode cX7_findRows 33 = .ok (.aload_n 0, 1) := by decide +kernel
theorem dX7_findRows_34 : decode cX7_findRows 34 = .ok (.getfield 50, 3) := by decide +kernel
theorem dX7_findRows_37 : decode cX7_findRows 37 = .ok (.iconst 3, 1) := by decide +kernel
theorem dX7_findRows_38 : decode cX7_findRows 38 = .ok (.aload_n 0, 1) := by decide +kernel
theorem dX7_findRows_39 : decode cX7_findRows 39 = .ok (.getfield 277, 3) := by decide +kernel
theorem dX7_findRows_42 : decode cX7_findRows 42 = .ok (.imul, 1) := by decide +kernel
theorem dX7_findRows_43 : decode cX7_findRows 43 = .ok (.iload_n 2, 1) := by decide +kernel
theorem dX7_findRows_44 : decode cX7_findRows 44 = .ok (.iastore, 1) := by decide +kernel
theorem dX7_findRows_45 : decode cX7_findRows 45 = .ok (.aload_n 0, 1) := by decide +kernel
theorem dX7_findRows_46 : decode cX7_findRows 46 = .ok (.getfield 50, 3) := by decide +kernel
theorem dX7_findRows_49 : decode cX7_findRows 49 = .ok (.iconst 3, 1) := by decide +kernel
theorem dX7_findRows_50 : decode cX7_findRows 50 = .ok (.aload_n 0, 1) := by decide +kernel
theorem dX7_findRows_51 : decode cX7_findRows 51 = .ok (.getfield 277, 3) := by decide +kernel
theorem dX7_findRows_54 : decode cX7_findRows 54 = .ok (.imul, 1) := by decide +kernel
theorem dX7_findRows_55 : decode cX7_findRows 55 = .ok (.iconst 1, 1) := by decide +kernel
theorem dX7_findRows_56 : decode cX7_findRows 56 = .ok (.iadd, 1) := by decide +kernel
theorem dX7_findRows_57 : decode cX7_findRows 57 = .ok (.iload_n 3, 1) := by decide +kernel
theorem dX7_findRows_58 : decode cX7_findRows 58 = .ok (.iastore, 1) := by decide +kernel
theorem dX7_findRows_59 : decode cX7_findRows 59 = .ok (.aload_n 0, 1) := by decide +kernel
theorem dX7_findRows_60 : decode cX7_findRows 60 = .ok (.getfield 50, 3) := by decide +kernel
theorem dX7_findRows_63 : decode cX7_findRows 63 = .ok (.iconst 3, 1) := by decide +kernel
theorem dX7_findRows_64 : decode cX7_findRows 64 = .ok (.aload_n 0, 1) := by decide +kernel
theorem dX7_findRows_65 : decode cX7_findRows 65 = .ok (.getfield 277, 3) := by decide +kernel
theorem dX7_findRows_68 : decode cX7_findRows 68 = .ok (.imul, 1) := by decide +kernel
theorem dX7_findRows_69 : decode cX7_findRows 69 = .ok (.iconst 2, 1) := by decide +kernel
theorem dX7_findRows_70 : decode cX7_findRows 70 = .ok (.iadd, 1) := by decide +kernel
theorem dX7_findRows_71 : decode cX7_findRows 71 = .ok (.iload_n 3, 1) := by decide +kernel
theorem dX7_findRows_72 : decode cX7_findRows 72 = .ok (.aload_n 0, 1) := by decide +kernel
theorem dX7_findRows_73 : decode cX7_findRows 73 = .ok (.getfield 7, 3) := by decide +kernel
theorem dX7_findRows_76 : decode cX7_findRows 76 = .ok (.iload_n 2, 1) := by decide +kernel
theorem dX7_findRows_77 : decode cX7_findRows 77 = .ok (.iaload, 1) := by decide +kernel
theorem dX7_findRows_78 : decode cX7_findRows 78 = .ok (.if_icmp .ne 7, 3) := by decide +kernel
theorem dX7_findRows_81 : decode cX7_findRows 81 = .ok (.iconst 1, 1) := by decide +kernel
theorem dX7_findRows_82 : decode cX7_findRows 82 = .ok (.goto 4, 3) := by decide +kernel
theorem dX7_findRows_85 : decode cX7_findRows 85 = .ok (.iconst 0, 1) := by decide +kernel
theorem dX7_findRows_86 : decode cX7_findRows 86 = .ok (.iastore, 1) := by decide +kernel
theorem dX7_findRows_87 : decode cX7_findRows 87 = .ok (.aload_n 0, 1) := by decide +kernel
theorem dX7_findRows_88 : decode cX7_findRows 88 = .ok (.dup, 1) := by decide +kernel
theorem dX7_findRows_89 : decode cX7_findRows 89 = .ok (.getfield 277, 3) := by decide +kernel
theorem dX7_findRows_92 : decode cX7_findRows 92 = .ok (.iconst 1, 1) := by decide +kernel
theorem dX7_findRows_93 : decode cX7_findRows 93 = .ok (.iadd, 1) := by decide +kernel
theorem dX7_findRows_94 : decode cX7_findRows 94 = .ok (.putfield 277, 3) := by decide +kernel
theorem dX7_findRows_97 : decode cX7_findRows 97 = .ok (.iinc 2 1, 3) := by decide +kernel
theorem dX7_findRows_100 : decode cX7_findRows 100 = .ok (.goto (-93), 3) := by decide +kernel
theorem dX7_findRows_103 : decode cX7_findRows 103 = .ok (.return_, 1) := by decide +kernel
theorem dX7_prove_0 : decode cX7_prove 0 = .ok (.aload_n 0, 1) := by decide +kernel
theorem dX7_prove_1 : decode cX7_prove 1 = .ok (.iload_n 1, 1) := by decide +kernel
theorem dX7_prove_2 : decode cX7_prove 2 = .ok (.invokevirtual 210, 3) := by decide +kernel
theorem dX7_prove_5 : decode cX7_prove 5 = .ok (.ifCond .ne 5, 3) := by decide +kernel
theorem dX7_prove_8 : decode cX7_prove 8 = .ok (.iconst (-1), 1) := by decide +kernel
theorem dX7_prove_9 : decode cX7_prove 9 = .ok (.ireturn, 1) := by decide +kernel
theorem dX7_prove_10 : decode cX7_prove 10 = .ok (.aload_n 0, 1) := by decide +kernel
theorem dX7_prove_11 : decode cX7_prove 11 = .ok (.iload_n 1, 1) := by decide +kernel
theorem dX7_prove_12 : decode cX7_prove 12 = .ok (.invokevirtual 280, 3) := by decide +kernel
theorem dX7_prove_15 : decode cX7_prove 15 = .ok (.aload_n 0, 1) := by decide +kernel
theorem dX7_prove_16 : decode cX7_prove 16 = .ok (.aload_n 0, 1) := by decide +kernel
theorem dX7_prove_17 : decode cX7_prove 17 = .ok (.getfield 277, 3) := by decide +kernel
theorem dX7_prove_20 : decode cX7_prove 20 = .ok (.putfield 190, 3) := by decide +kernel
theorem dX7_prove_23 : decode cX7_prove 23 = .ok (.iconst 0, 1) := by decide +kernel
theorem dX7_prove_24 : decode cX7_prove 24 = .ok (.istore_n 2, 1) := by decide +kernel
theorem dX7_prove_25 : decode cX7_prove 25 = .ok (.iload_n 2, 1) := by decide +kernel
theorem dX7_prove_26 : decode cX7_prove 26 = .ok (.iconst 3, 1) := by decide +kernel
theorem dX7_prove_27 : decode cX7_prove 27 = .ok (.aload_n 0, 1) := by decide +kernel
theorem dX7_prove_28 : decode cX7_prove 28 = .ok (.getfield 190, 3) := by decide +kernel
theorem dX7_prove_31 : decode cX7_prove 31 = .ok (.imul, 1) := by decide +kernel
theorem dX7_prove_32 : decode cX7_prove 32 = .ok (.if_icmp .ge 21, 3) := by decide +kernel
theorem dX7_prove_35 : decode cX7_prove 35 = .ok (.aload_n 0, 1) := by decide +kernel
theorem dX7_prove_36 : decode cX7_prove 36 = .ok (.getfield 47, 3) := by decide +kernel
theorem dX7_prove_39 : decode cX7_prove 39 = .ok (.iload_n 2, 1) := by decide +kernel
theorem dX7_prove_40 : decode cX7_prove 40 = .ok (.aload_n 0, 1) := by decide +kernel
theorem dX7_prove_41 : decode cX7_prove 41 = .ok (.getfield 50, 3) := by decide +kernel
theorem dX7_prove_44 : decode cX7_prove 44 = .ok (.iload_n 2, 1) := by decide +kernel
theorem dX7_prove_45 : decode cX7_prove 45 = .ok (.iaload, 1) := by decide +kernel
theorem dX7_prove_46 : decode cX7_prove 46 = .ok (.iastore, 1) := by decide +kernel
theorem dX7_prove_47 : decode cX7_prove 47 = .ok (.iinc 2 1, 3) := by decide +kernel
theorem dX7_prove_50 : decode cX7_prove 50 = .ok (.goto (-25), 3) := by decide +kernel
theorem dX7_prove_53 : decode cX7_prove 53 = .ok (.aload_n 0, 1) := by decide +kernel
theorem dX7_prove_54 : decode cX7_prove 54 = .ok (.getfield 190, 3) := by decide +kernel
theorem dX7_prove_57 : decode cX7_prove 57 = .ok (.ireturn, 1) := by decide +kernel
theorem dX7_isRow_0 : decode cX7_isRow 0 = .ok (.iload_n 1, 1) := by decide +kernel
theorem dX7_isRow_1 : decode cX7_isRow 1 = .ok (.iconst 0, 1) := by decide +kernel
theorem dX7_isRow_2 : decode cX7_isRow 2 = .ok (.aload_n 0, 1) := by decide +kernel
theorem dX7_isRow_3 : decode cX7_isRow 3 = .ok (.getfield 190, 3) := by decide +kernel
theorem dX7_isRow_6 : decode cX7_isRow 6 = .ok (.iconst 1, 1) := by decide +kernel
theorem dX7_isRow_7 : decode cX7_isRow 7 = .ok (.isub, 1) := by decide +kernel
theorem dX7_isRow_8 : decode cX7_isRow 8 = .ok (.invokestatic 81, 3) := by decide +kernel
theorem dX7_isRow_11 : decode cX7_isRow 11 = .ok (.ifCond .eq 16, 3) := by decide +kernel
theorem dX7_isRow_14 : decode cX7_isRow 14 = .ok (.iload_n 2, 1) := by decide +kernel
theorem dX7_isRow_15 : decode cX7_isRow 15 = .ok (.iconst 0, 1) := by decide +kernel
theorem dX7_isRow_16 : decode cX7_isRow 16 = .ok (.iconst 2, 1) := by decide +kernel
theorem dX7_isRow_17 : decode cX7_isRow 17 = .ok (.invokestatic 81, 3) := by decide +kernel
theorem dX7_isRow_20 : decode cX7_isRow 20 = .ok (.ifCond .eq 7, 3) := by decide +kernel
theorem dX7_isRow_23 : decode cX7_isRow 23 = .ok (.iconst 1, 1) := by decide +kernel
theorem dX7_isRow_24 : decode cX7_isRow 24 = .ok (.goto 4, 3) := by decide +kernel
theorem dX7_isRow_27 : decode cX7_isRow 27 = .ok (.iconst 0, 1) := by decide +kernel
theorem dX7_isRow_28 : decode cX7_isRow 28 = .ok (.ireturn, 1) := by decide +kernel
theorem dX7_row_0 : decode cX7_row 0 = .ok (.aload_n 0, 1) := by decide +kernel
theorem dX7_row_1 : decode cX7_row 1 = .ok (.iload_n 1, 1) := by decide +kernel
theorem dX7_row_2 : decode cX7_row 2 = .ok (.iload_n 2, 1) := by decide +kernel
theorem dX7_row_3 : decode cX7_row 3 = .ok (.invokevirtual 283, 3) := by decide +kernel
theorem dX7_row_6 : decode cX7_row 6 = .ok (.ifCond .eq 16, 3) := by decide +kernel
theorem dX7_row_9 : decode cX7_row 9 = .ok (.aload_n 0, 1) := by decide +kernel
theorem dX7_row_10 : decode cX7_row 10 = .ok (.getfield 47, 3) := by decide +kernel
theorem dX7_row_13 : decode cX7_row 13 = .ok (.iconst 3, 1) := by decide +kernel
theorem dX7_row_14 : decode cX7_row 14 = .ok (.iload_n 1, 1) := by decide +kernel
theorem dX7_row_15 : decode cX7_row 15 = .ok (.imul, 1) := by decide +kernel
theorem dX7_row_16 : decode cX7_row 16 = .ok (.iload_n 2, 1) := by decide +kernel
theorem dX7_row_17 : decode cX7_row 17 = .ok (.iadd, 1) := by decide +kernel
theorem dX7_row_18 : decode cX7_row 18 = .ok (.iaload, 1) := by decide +kernel
theorem dX7_row_19 : decode cX7_row 19 = .ok (.goto 5, 3) := by decide +kernel
theorem dX7_row_22 : decode cX7_row 22 = .ok (.bipush (-99), 2) := by decide +kernel
theorem dX7_row_24 : decode cX7_row 24 = .ok (.ireturn, 1) := by decide +kernel
theorem dX7_alterRow_0 : decode cX7_alterRow 0 = .ok (.aload_n 0, 1) := by decide +kernel
theorem dX7_alterRow_1 : decode cX7_alterRow 1 = .ok (.iload_n 1, 1) := by decide +kernel
theorem dX7_alterRow_2 : decode cX7_alterRow 2 = .ok (.iload_n 2, 1) := by decide +kernel
theorem dX7_alterRow_3 : decode cX7_alterRow 3 = .ok (.invokevirtual 283, 3) := by decide +kernel
theorem dX7_alterRow_6 : decode cX7_alterRow 6 = .ok (.ifCond .ne 6, 3) := by decide +kernel
theorem dX7_alterRow_9 : decode cX7_alterRow 9 = .ok (.bipush (-99), 2) := by decide +kernel
theorem dX7_alterRow_11 : decode cX7_alterRow 11 = .ok (.ireturn, 1) := by decide +kernel
theorem dX7_alterRow_12 : decode cX7_alterRow 12 = .ok (.aload_n 0, 1) := by decide +kernel
theorem dX7_alterRow_13 : decode cX7_alterRow 13 = .ok (.getfield 47, 3) := by decide +kernel
theorem dX7_alterRow_16 : decode cX7_alterRow 16 = .ok (.iconst 3, 1) := by decide +kernel
theorem dX7_alterRow_17 : decode cX7_alterRow 17 = .ok (.iload_n 1, 1) := by decide +kernel
theorem dX7_alterRow_18 : decode cX7_alterRow 18 = .ok (.imul, 1) := by decide +kernel
theorem dX7_alterRow_19 : decode cX7_alterRow 19 = .ok (.iload_n 2, 1) := by decide +kernel
theorem dX7_alterRow_20 : decode cX7_alterRow 20 = .ok (.iadd, 1) := by decide +kernel
theorem dX7_alterRow_21 : decode cX7_alterRow 21 = .ok (.iaload, 1) := by decide +kernel
theorem dX7_alterRow_22 : decode cX7_alterRow 22 = .ok (.istore 4, 2) := by decide +kernel
theorem dX7_alterRow_24 : decode cX7_alterRow 24 = .ok (.aload_n 0, 1) := by decide +kernel
theorem dX7_alterRow_25 : decode cX7_alterRow 25 = .ok (.getfield 47, 3) := by decide +kernel
theorem dX7_alterRow_28 : decode cX7_alterRow 28 = .ok (.iconst 3, 1) := by decide +kernel
theorem dX7_alterRow_29 : decode cX7_alterRow 29 = .ok (.iload_n 1, 1) := by decide +kernel
theorem dX7_alterRow_30 : decode cX7_alterRow 30 = .ok (.imul, 1) := by decide +kernel
theorem dX7_alterRow_31 : decode cX7_alterRow 31 = .ok (.iload_n 2, 1) := by decide +kernel
theorem dX7_alterRow_32 : decode cX7_alterRow 32 = .ok (.iadd, 1) := by decide +kernel
theorem dX7_alterRow_33 : decode cX7_alterRow 33 = .ok (.iload_n 3, 1) := by decide +kernel
theorem dX7_alterRow_34 : decode cX7_alterRow 34 = .ok (.iastore, 1) := by decide +kernel
theorem dX7_alterRow_35 : decode cX7_alterRow 35 = .ok (.iload 4, 2) := by decide +kernel
theorem dX7_alterRow_37 : decode cX7_alterRow 37 = .ok (.ireturn, 1) := by decide +kernel
theorem dX7_judge_0 : decode cX7_judge 0 = .ok (.aload_n 0, 1) := by decide +kernel
theorem dX7_judge_1 : decode cX7_judge 1 = .ok (.iload_n 1, 1) := by decide +kernel
theorem dX7_judge_2 : decode cX7_judge 2 = .ok (.invokevirtual 210, 3) := by decide +kernel
theorem dX7_judge_5 : decode cX7_judge 5 = .ok (.ifCond .ne 5, 3) := by decide +kernel
theorem dX7_judge_8 : decode cX7_judge 8 = .ok (.iconst (-1), 1) := by decide +kernel
theorem dX7_judge_9 : decode cX7_judge 9 = .ok (.ireturn, 1) := by decide +kernel
theorem dX7_judge_10 : decode cX7_judge 10 = .ok (.aload_n 0, 1) := by decide +kernel
theorem dX7_judge_11 : decode cX7_judge 11 = .ok (.iload_n 1, 1) := by decide +kernel
theorem dX7_judge_12 : decode cX7_judge 12 = .ok (.invokevirtual 280, 3) := by decide +kernel
theorem dX7_judge_15 : decode cX7_judge 15 = .ok (.iconst 0, 1) := by decide +kernel
theorem dX7_judge_16 : decode cX7_judge 16 = .ok (.istore_n 2, 1) := by decide +kernel
theorem dX7_judge_17 : decode cX7_judge 17 = .ok (.iload_n 2, 1) := by decide +kernel
theorem dX7_judge_18 : decode cX7_judge 18 = .ok (.aload_n 0, 1) := by decide +kernel
theorem dX7_judge_19 : decode cX7_judge 19 = .ok (.getfield 190, 3) := by decide +kernel
theorem dX7_judge_22 : decode cX7_judge 22 = .ok (.if_icmp .ge 81, 3) := by decide +kernel
theorem dX7_judge_25 : decode cX7_judge 25 = .ok (.iload_n 2, 1) := by decide +kernel
theorem dX7_judge_26 : decode cX7_judge 26 = .ok (.aload_n 0, 1) := by decide +kernel
theorem dX7_judge_27 : decode cX7_judge 27 = .ok (.getfield 277, 3) := by decide +kernel
theorem dX7_judge_30 : decode cX7_judge 30 = .ok (.if_icmp .ge 7, 3) := by decide +kernel
theorem dX7_judge_33 : decode cX7_judge 33 = .ok (.iconst 1, 1) := by decide +kernel
theorem dX7_judge_34 : decode cX7_judge 34 = .ok (.goto 4, 3) := by decide +kernel
theorem dX7_judge_37 : decode cX7_judge 37 = .ok (.iconst 0, 1) := by decide +kernel
theorem dX7_judge_38 : decode cX7_judge 38 = .ok (.istore_n 3, 1) := by decide +kernel
theorem dX7_judge_39 : decode cX7_judge 39 = .ok (.iconst 0, 1) := by decide +kernel
theorem dX7_judge_40 : decode cX7_judge 40 = .ok (.istore 4, 2) := by decide +kernel
theorem dX7_judge_42 : decode cX7_judge 42 = .ok (.iload 4, 2) := by decide +kernel
theorem dX7_judge_44 : decode cX7_judge 44 = .ok (.iconst 3, 1) := by decide +kernel
theorem dX7_judge_45 : decode cX7_judge 45 = .ok (.if_icmp .ge 44, 3) := by decide +kernel
theorem dX7_judge_48 : decode cX7_judge 48 = .ok (.iload_n 3, 1) := by decide +kernel
theorem dX7_judge_49 : decode cX7_judge 49 = .ok (.ifCond .eq 40, 3) := by decide +kernel
theorem dX7_judge_52 : decode cX7_judge 52 = .ok (.aload_n 0, 1) := by decide +kernel
theorem dX7_judge_53 : decode cX7_judge 53 = .ok (.getfield 47, 3) := by decide +kernel
theorem dX7_judge_56 : decode cX7_judge 56 = .ok (.iconst 3, 1) := by decide +kernel
theorem dX7_judge_57 : decode cX7_judge 57 = .ok (.iload_n 2, 1) := by decide +kernel
theorem dX7_judge_58 : decode cX7_judge 58 = .ok (.imul, 1) := by decide +kernel
theorem dX7_judge_59 : decode cX7_judge 59 = .ok (.iload 4, 2) := by decide +kernel
theorem dX7_judge_61 : decode cX7_judge 61 = .ok (.iadd, 1) := by decide +kernel
theorem dX7_judge_62 : decode cX7_judge 62 = .ok (.iaload, 1) := by decide +kernel
theorem dX7_judge_63 : decode cX7_judge 63 = .ok (.aload_n 0, 1) := by decide +kernel
theorem dX7_judge_64 : decode cX7_judge 64 = .ok (.getfield 50, 3) := by decide +kernel
theorem dX7_judge_67 : decode cX7_judge 67 = .ok (.iconst 3, 1) := by decide +kernel
theorem dX7_judge_68 : decode cX7_judge 68 = .ok (.iload_n 2, 1) := by decide +kernel
theorem dX7_judge_69 : decode cX7_judge 69 = .ok (.imul, 1) := by decide +kernel
theorem dX7_judge_70 : decode cX7_judge 70 = .ok (.iload 4, 2) := by decide +kernel
theorem dX7_judge_72 : decode cX7_judge 72 = .ok (.iadd, 1) := by decide +kernel
theorem dX7_judge_73 : decode cX7_judge 73 = .ok (.iaload, 1) := by decide +kernel
theorem dX7_judge_74 : decode cX7_judge 74 = .ok (.if_icmp .ne 7, 3) := by decide +kernel
theorem dX7_judge_77 : decode cX7_judge 77 = .ok (.iconst 1, 1) := by decide +kernel
theorem dX7_judge_78 : decode cX7_judge 78 = .ok (.goto 4, 3) := by decide +kernel
theorem dX7_judge_81 : decode cX7_judge 81 = .ok (.iconst 0, 1) := by decide +kernel
theorem dX7_judge_82 : decode cX7_judge 82 = .ok (.istore_n 3, 1) := by decide +kernel
theorem dX7_judge_83 : decode cX7_judge 83 = .ok (.iinc 4 1, 3) := by decide +kernel
theorem dX7_judge_86 : decode cX7_judge 86 = .ok (.goto (-44), 3) := by decide +kernel
theorem dX7_judge_89 : decode cX7_judge 89 = .ok (.iload_n 3, 1) := by decide +kernel
theorem dX7_judge_90 : decode cX7_judge 90 = .ok (.ifCond .ne 7, 3) := by decide +kernel
theorem dX7_judge_93 : decode cX7_judge 93 = .ok (.iload_n 2, 1) := by decide +kernel
theorem dX7_judge_94 : decode cX7_judge 94 = .ok (.iconst 1, 1) := by decide +kernel
theorem dX7_judge_95 : decode cX7_judge 95 = .ok (.iadd, 1) := by decide +kernel
theorem dX7_judge_96 : decode cX7_judge 96 = .ok (.ireturn, 1) := by decide +kernel
theorem dX7_judge_97 : decode cX7_judge 97 = .ok (.iinc 2 1, 3) := by decide +kernel
theorem dX7_judge_100 : decode cX7_judge 100 = .ok (.goto (-83), 3) := by decide +kernel
theorem dX7_judge_103 : decode cX7_judge 103 = .ok (.aload_n 0, 1) := by decide +kernel
theorem dX7_judge_104 : decode cX7_judge 104 = .ok (.getfield 190, 3) := by decide +kernel
theorem dX7_judge_107 : decode cX7_judge 107 = .ok (.aload_n 0, 1) := by decide +kernel
theorem dX7_judge_108 : decode cX7_judge 108 = .ok (.getfield 277, 3) := by decide +kernel
theorem dX7_judge_111 : decode cX7_judge 111 = .ok (.if_icmp .ge 9, 3) := by decide +kernel
theorem dX7_judge_114 : decode cX7_judge 114 = .ok (.sipush 222, 3) := by decide +kernel
theorem dX7_judge_117 : decode cX7_judge 117 = .ok (.goto 4, 3) := by decide +kernel
theorem dX7_judge_120 : decode cX7_judge 120 = .ok (.iconst 0, 1) := by decide +kernel
theorem dX7_judge_121 : decode cX7_judge 121 = .ok (.ireturn, 1) := by decide +kernel
theorem dX7_years_0 : decode cX7_years 0 = .ok (.iload_n 1, 1) := by decide +kernel
theorem dX7_years_1 : decode cX7_years 1 = .ok (.invokestatic 287, 3) := by decide +kernel
theorem dX7_years_4 : decode cX7_years 4 = .ok (.ifCond .eq 30, 3) := by decide +kernel
theorem dX7_years_7 : decode cX7_years 7 = .ok (.iload_n 3, 1) := by decide +kernel
theorem dX7_years_8 : decode cX7_years 8 = .ok (.invokestatic 196, 3) := by decide +kernel
theorem dX7_years_11 : decode cX7_years 11 = .ok (.ifCond .eq 23, 3) := by decide +kernel
theorem dX7_years_14 : decode cX7_years 14 = .ok (.iload 4, 2) := by decide +kernel
theorem dX7_years_16 : decode cX7_years 16 = .ok (.iconst 0, 1) := by decide +kernel
theorem dX7_years_17 : decode cX7_years 17 = .ok (.bipush 24, 2) := by decide +kernel
theorem dX7_years_19 : decode cX7_years 19 = .ok (.invokestatic 81, 3) := by decide +kernel
theorem dX7_years_22 : decode cX7_years 22 = .ok (.ifCond .eq 12, 3) := by decide +kernel
theorem dX7_years_25 : decode cX7_years 25 = .ok (.iload_n 3, 1) := by decide +kernel
theorem dX7_years_26 : decode cX7_years 26 = .ok (.iload 4, 2) := by decide +kernel
theorem dX7_years_28 : decode cX7_years 28 = .ok (.iadd, 1) := by decide +kernel
theorem dX7_years_29 : decode cX7_years 29 = .ok (.bipush 24, 2) := by decide +kernel
theorem dX7_years_31 : decode cX7_years 31 = .ok (.if_icmp .le 5, 3) := by decide +kernel
theorem dX7_years_34 : decode cX7_years 34 = .ok (.iconst (-1), 1) := by decide +kernel
theorem dX7_years_35 : decode cX7_years 35 = .ok (.ireturn, 1) := by decide +kernel
theorem dX7_years_36 : decode cX7_years 36 = .ok (.aload_n 0, 1) := by decide +kernel
theorem dX7_years_37 : decode cX7_years 37 = .ok (.iload_n 1, 1) := by decide +kernel
theorem dX7_years_38 : decode cX7_years 38 = .ok (.iconst 0, 1) := by decide +kernel
theorem dX7_years_39 : decode cX7_years 39 = .ok (.invokevirtual 290, 3) := by decide +kernel
theorem dX7_years_42 : decode cX7_years 42 = .ok (.istore 5, 2) := by decide +kernel
theorem dX7_years_44 : decode cX7_years 44 = .ok (.iload 5, 2) := by decide +kernel
theorem dX7_years_46 : decode cX7_years 46 = .ok (.ifCond .eq 6, 3) := by decide +kernel
theorem dX7_years_49 : decode cX7_years 49 = .ok (.iload 5, 2) := by decide +kernel
theorem dX7_years_51 : decode cX7_years 51 = .ok (.ireturn, 1) := by decide +kernel
theorem dX7_years_52 : decode cX7_years 52 = .ok (.iload_n 2, 1) := by decide +kernel
theorem dX7_years_53 : decode cX7_years 53 = .ok (.ifCond .lt 16, 3) := by decide +kernel
theorem dX7_years_56 : decode cX7_years 56 = .ok (.iload_n 2, 1) := by decide +kernel
theorem dX7_years_57 : decode cX7_years 57 = .ok (.aload_n 0, 1) := by decide +kernel
theorem dX7_years_58 : decode cX7_years 58 = .ok (.getfield 56, 3) := by decide +kernel
theorem dX7_years_61 : decode cX7_years 61 = .ok (.iload_n 1, 1) := by decide +kernel
theorem dX7_years_62 : decode cX7_years 62 = .ok (.iaload, 1) := by decide +kernel
theorem dX7_years_63 : decode cX7_years 63 = .ok (.iload 4, 2) := by decide +kernel
theorem dX7_years_65 : decode cX7_years 65 = .ok (.isub, 1) := by decide +kernel
theorem dX7_years_66 : decode cX7_years 66 = .ok (.if_icmp .le 6, 3) := by decide +kernel
theorem dX7_years_69 : decode cX7_years 69 = .ok (.bipush (-12), 2) := by decide +kernel
theorem dX7_years_71 : decode cX7_years 71 = .ok (.ireturn, 1) := by decide +kernel
theorem dX7_years_72 : decode cX7_years 72 = .ok (.iconst 0, 1) := by decide +kernel
theorem dX7_years_73 : decode cX7_years 73 = .ok (.istore 6, 2) := by decide +kernel
theorem dX7_years_75 : decode cX7_years 75 = .ok (.iconst 0, 1) := by decide +kernel
theorem dX7_years_76 : decode cX7_years 76 = .ok (.istore 7, 2) := by decide +kernel
theorem dX7_years_78 : decode cX7_years 78 = .ok (.iload 7, 2) := by decide +kernel
theorem dX7_years_80 : decode cX7_years 80 = .ok (.iload 4, 2) := by decide +kernel
theorem dX7_years_82 : decode cX7_years 82 = .ok (.if_icmp .ge 84, 3) := by decide +kernel
theorem dX7_years_85 : decode cX7_years 85 = .ok (.aload_n 0, 1) := by decide +kernel
theorem dX7_years_86 : decode cX7_years 86 = .ok (.getfield 59, 3) := by decide +kernel
theorem dX7_years_89 : decode cX7_years 89 = .ok (.bipush 40, 2) := by decide +kernel
theorem dX7_years_91 : decode cX7_years 91 = .ok (.iload_n 1, 1) := by decide +kernel
theorem dX7_years_92 : decode cX7_years 92 = .ok (.imul, 1) := by decide +kernel
theorem dX7_years_93 : decode cX7_years 93 = .ok (.iload_n 2, 1) := by decide +kernel
theorem dX7_years_94 : decode cX7_years 94 = .ok (.iadd, 1) := by decide +kernel
theorem dX7_years_95 : decode cX7_years 95 = .ok (.iload 7, 2) := by decide +kernel
theorem dX7_years_97 : decode cX7_years 97 = .ok (.iadd, 1) := by decide +kernel
theorem dX7_years_98 : decode cX7_years 98 = .ok (.laload, 1) := by decide +kernel
theorem dX7_years_99 : decode cX7_years 99 = .ok (.lstore 8, 2) := by decide +kernel
theorem dX7_years_101 : decode cX7_years 101 = .ok (.lload 8, 2) := by decide +kernel
theorem dX7_years_103 : decode cX7_years 103 = .ok (.lconst 0, 1) := by decide +kernel
theorem dX7_years_104 : decode cX7_years 104 = .ok (.lcmp, 1) := by decide +kernel
theorem dX7_years_105 : decode cX7_years 105 = .ok (.ifCond .lt 16, 3) := by decide +kernel
theorem dX7_years_108 : decode cX7_years 108 = .ok (.lload 8, 2) := by decide +kernel
theorem dX7_years_110 : decode cX7_years 110 = .ok (.ldc2_w 293, 3) := by decide +kernel
theorem dX7_years_113 : decode cX7_years 113 = .ok (.lcmp, 1) := by decide +kernel
theorem dX7_years_114 : decode cX7_years 114 = .ok (.ifCond .gt 7, 3) := by decide +kernel
theorem dX7_years_117 : decode cX7_years 117 = .ok (.iconst 1, 1) := by decide +kernel
theorem dX7_years_118 : decode cX7_years 118 = .ok (.goto 4, 3) := by decide +kernel
theorem dX7_years_121 : decode cX7_years 121 = .ok (.iconst 0, 1) := by decide +kernel
theorem dX7_years_122 : decode cX7_years 122 = .ok (.istore 10, 2) := by decide +kernel
theorem dX7_years_124 : decode cX7_years 124 = .ok (.aload_n 0, 1) := by decide +kernel
theorem dX7_years_125 : decode cX7_years 125 = .ok (.getfield 7, 3) := by decide +kernel
theorem dX7_years_128 : decode cX7_years 128 = .ok (.iload_n 3, 1) := by decide +kernel
theorem dX7_years_129 : decode cX7_years 129 = .ok (.iload 7, 2) := by decide +kernel
theorem dX7_years_131 : decode cX7_years 131 = .ok (.iadd, 1) := by decide +kernel
theorem dX7_years_132 : decode cX7_years 132 = .ok (.iload 10, 2) := by decide +kernel
theorem dX7_years_134 : decode cX7_years 134 = .ok (.ifCond .eq 9, 3) := by decide +kernel
theorem dX7_years_137 : decode cX7_years 137 = .ok (.lload 8, 2) := by decide +kernel
theorem dX7_years_139 : decode cX7_years 139 = .ok (.l2i, 1) := by decide +kernel
theorem dX7_years_140 : decode cX7_years 140 = .ok (.goto 4, 3) := by decide +kernel
theorem dX7_years_143 : decode cX7_years 143 = .ok (.iconst (-1), 1) := by decide +kernel
theorem dX7_years_144 : decode cX7_years 144 = .ok (.iastore, 1) := by decide +kernel
theorem dX7_years_145 : decode cX7_years 145 = .ok (.iload 6, 2) := by decide +kernel
theorem dX7_years_147 : decode cX7_years 147 = .ok (.iload 10, 2) := by decide +kernel
theorem dX7_years_149 : decode cX7_years 149 = .ok (.ifCond .eq 7, 3) := by decide +kernel
theorem dX7_years_152 : decode cX7_years 152 = .ok (.iconst 1, 1) := by decide +kernel
theorem dX7_years_153 : decode cX7_years 153 = .ok (.goto 4, 3) := by decide +kernel
theorem dX7_years_156 : decode cX7_years 156 = .ok (.iconst 0, 1) := by decide +kernel
theorem dX7_years_157 : decode cX7_years 157 = .ok (.iadd, 1) := by decide +kernel
theorem dX7_years_158 : decode cX7_years 158 = .ok (.istore 6, 2) := by decide +kernel
theorem dX7_years_160 : decode cX7_years 160 = .ok (.iinc 7 1, 3) := by decide +kernel
theorem dX7_years_163 : decode cX7_years 163 = .ok (.goto (-85), 3) := by decide +kernel
theorem dX7_years_166 : decode cX7_years 166 = .ok (.iload 6, 2) := by decide +kernel
theorem dX7_years_168 : decode cX7_years 168 = .ok (.ireturn, 1) := by decide +kernel
theorem dX7_isShelf_0 : decode cX7_isShelf 0 = .ok (.iload_n 0, 1) := by decide +kernel
theorem dX7_isShelf_1 : decode cX7_isShelf 1 = .ok (.iconst 0, 1) := by decide +kernel
theorem dX7_isShelf_2 : decode cX7_isShelf 2 = .ok (.iconst 3, 1) := by decide +kernel
theorem dX7_isShelf_3 : decode cX7_isShelf 3 = .ok (.invokestatic 81, 3) := by decide +kernel
theorem dX7_isShelf_6 : decode cX7_isShelf 6 = .ok (.ireturn, 1) := by decide +kernel
theorem dX7_sheet_0 : decode cX7_sheet 0 = .ok (.iload_n 1, 1) := by decide +kernel
theorem dX7_sheet_1 : decode cX7_sheet 1 = .ok (.invokestatic 287, 3) := by decide +kernel
theorem dX7_sheet_4 : decode cX7_sheet 4 = .ok (.ifCond .eq 22, 3) := by decide +kernel
theorem dX7_sheet_7 : decode cX7_sheet 7 = .ok (.iload_n 2, 1) := by decide +kernel
theorem dX7_sheet_8 : decode cX7_sheet 8 = .ok (.iconst (-1), 1) := by decide +kernel
theorem dX7_sheet_9 : decode cX7_sheet 9 = .ok (.iconst 3, 1) := by decide +kernel
theorem dX7_sheet_10 : decode cX7_sheet 10 = .ok (.invokestatic 81, 3) := by decide +kernel
theorem dX7_sheet_13 : decode cX7_sheet 13 = .ok (.ifCond .eq 13, 3) := by decide +kernel
theorem dX7_sheet_16 : decode cX7_sheet 16 = .ok (.iload_n 2, 1) := by decide +kernel
theorem dX7_sheet_17 : decode cX7_sheet 17 = .ok (.ifCond .lt 11, 3) := by decide +kernel
theorem dX7_sheet_20 : decode cX7_sheet 20 = .ok (.iload_n 3, 1) := by decide +kernel
theorem dX7_sheet_21 : decode cX7_sheet 21 = .ok (.bipush 40, 2) := by decide +kernel
theorem dX7_sheet_23 : decode cX7_sheet 23 = .ok (.if_icmp .le 5, 3) := by decide +kernel
theorem dX7_sheet_26 : decode cX7_sheet 26 = .ok (.iconst (-1), 1) := by decide +kernel
theorem dX7_sheet_27 : decode cX7_sheet 27 = .ok (.ireturn, 1) := by decide +kernel
theorem dX7_sheet_28 : decode cX7_sheet 28 = .ok (.iload_n 2, 1) := by decide +kernel
theorem dX7_sheet_29 : decode cX7_sheet 29 = .ok (.ifCond .lt 10, 3) := by decide +kernel
theorem dX7_sheet_32 : decode cX7_sheet 32 = .ok (.iload_n 3, 1) := by decide +kernel
theorem dX7_sheet_33 : decode cX7_sheet 33 = .ok (.ifCond .ge 6, 3) := by decide +kernel
theorem dX7_sheet_36 : decode cX7_sheet 36 = .ok (.bipush (-14), 2) := by decide +kernel
theorem dX7_sheet_38 : decode cX7_sheet 38 = .ok (.ireturn, 1) := by decide +kernel
theorem dX7_sheet_39 : decode cX7_sheet 39 = .ok (.aload_n 0, 1) := by decide +kernel
theorem dX7_sheet_40 : decode cX7_sheet 40 = .ok (.getfield 53, 3) := by decide +kernel
theorem dX7_sheet_43 : decode cX7_sheet 43 = .ok (.iload_n 1, 1) := by decide +kernel
theorem dX7_sheet_44 : decode cX7_sheet 44 = .ok (.iload_n 2, 1) := by decide +kernel
theorem dX7_sheet_45 : decode cX7_sheet 45 = .ok (.iastore, 1) := by decide +kernel
theorem dX7_sheet_46 : decode cX7_sheet 46 = .ok (.aload_n 0, 1) := by decide +kernel
theorem dX7_sheet_47 : decode cX7_sheet 47 = .ok (.getfield 56, 3) := by decide +kernel
theorem dX7_sheet_50 : decode cX7_sheet 50 = .ok (.iload_n 1, 1) := by decide +kernel
theorem dX7_sheet_51 : decode cX7_sheet 51 = .ok (.iload_n 2, 1) := by decide +kernel
theorem dX7_sheet_52 : decode cX7_sheet 52 = .ok (.ifCond .ge 7, 3) := by decide +kernel
theorem dX7_sheet_55 : decode cX7_sheet 55 = .ok (.iconst 0, 1) := by decide +kernel
theorem dX7_sheet_56 : decode cX7_sheet 56 = .ok (.goto 4, 3) := by decide +kernel
theorem dX7_sheet_59 : decode cX7_sheet 59 = .ok (.iload_n 3, 1) := by decide +kernel
theorem dX7_sheet_60 : decode cX7_sheet 60 = .ok (.iastore, 1) := by decide +kernel
theorem dX7_sheet_61 : decode cX7_sheet 61 = .ok (.iconst 0, 1) := by decide +kernel
theorem dX7_sheet_62 : decode cX7_sheet 62 = .ok (.istore 4, 2) := by decide +kernel
theorem dX7_sheet_64 : decode cX7_sheet 64 = .ok (.iload 4, 2) := by decide +kernel
theorem dX7_sheet_66 : decode cX7_sheet 66 = .ok (.bipush 40, 2) := by decide +kernel
theorem dX7_sheet_68 : decode cX7_sheet 68 = .ok (.if_icmp .ge 22, 3) := by decide +kernel
theorem dX7_sheet_71 : decode cX7_sheet 71 = .ok (.aload_n 0, 1) := by decide +kernel
theorem dX7_sheet_72 : decode cX7_sheet 72 = .ok (.getfield 59, 3) := by decide +kernel
theorem dX7_sheet_75 : decode cX7_sheet 75 = .ok (.bipush 40, 2) := by decide +kernel
theorem dX7_sheet_77 : decode cX7_sheet 77 = .ok (.iload_n 1, 1) := by decide +kernel
theorem dX7_sheet_78 : decode cX7_sheet 78 = .ok (.imul, 1) := by decide +kernel
theorem dX7_sheet_79 : decode cX7_sheet 79 = .ok (.iload 4, 2) := by decide +kernel
theorem dX7_sheet_81 : decode cX7_sheet 81 = .ok (.iadd, 1) := by decide +kernel
theorem dX7_sheet_82 : decode cX7_sheet 82 = .ok (.lconst 0, 1) := by decide +kernel
theorem dX7_sheet_83 : decode cX7_sheet 83 = .ok (.lastore, 1) := by decide +kernel
theorem dX7_sheet_84 : decode cX7_sheet 84 = .ok (.iinc 4 1, 3) := by decide +kernel
theorem dX7_sheet_87 : decode cX7_sheet 87 = .ok (.goto (-23), 3) := by decide +kernel
theorem dX7_sheet_90 : decode cX7_sheet 90 = .ok (.iconst 1, 1) := by decide +kernel
theorem dX7_sheet_91 : decode cX7_sheet 91 = .ok (.ireturn, 1) := by decide +kernel
theorem dX7_put_0 : decode cX7_put 0 = .ok (.iload_n 1, 1) := by decide +kernel
theorem dX7_put_1 : decode cX7_put 1 = .ok (.invokestatic 287, 3) := by decide +kernel
theorem dX7_put_4 : decode cX7_put 4 = .ok (.ifCond .ne 5, 3) := by decide +kernel
theorem dX7_put_7 : decode cX7_put 7 = .ok (.iconst (-1), 1) := by decide +kernel
theorem dX7_put_8 : decode cX7_put 8 = .ok (.ireturn, 1) := by decide +kernel
theorem dX7_put_9 : decode cX7_put 9 = .ok (.aload_n 0, 1) := by decide +kernel
theorem dX7_put_10 : decode cX7_put 10 = .ok (.getfield 53, 3) := by decide +kernel
theorem dX7_put_13 : decode cX7_put 13 = .ok (.iload_n 1, 1) := by decide +kernel
theorem dX7_put_14 : decode cX7_put 14 = .ok (.iaload, 1) := by decide +kernel
theorem dX7_put_15 : decode cX7_put 15 = .ok (.ifCond .ge 6, 3) := by decide +kernel
theorem dX7_put_18 : decode cX7_put 18 = .ok (.bipush (-11), 2) := by decide +kernel
theorem dX7_put_20 : decode cX7_put 20 = .ok (.ireturn, 1) := by decide +kernel
theorem dX7_put_21 : decode cX7_put 21 = .ok (.iload_n 2, 1) := by decide +kernel
theorem dX7_put_22 : decode cX7_put 22 = .ok (.iconst 0, 1) := by decide +kernel
theorem dX7_put_23 : decode cX7_put 23 = .ok (.aload_n 0, 1) := by decide +kernel
theorem dX7_put_24 : decode cX7_put 24 = .ok (.getfield 56, 3) := by decide +kernel
theorem dX7_put_27 : decode cX7_put 27 = .ok (.iload_n 1, 1) := by decide +kernel
theorem dX7_put_28 : decode cX7_put 28 = .ok (.iaload, 1) := by decide +kernel
theorem dX7_put_29 : decode cX7_put 29 = .ok (.iconst 1, 1) := by decide +kernel
theorem dX7_put_30 : decode cX7_put 30 = .ok (.isub, 1) := by decide +kernel
theorem dX7_put_31 : decode cX7_put 31 = .ok (.invokestatic 81, 3) := by decide +kernel
theorem dX7_put_34 : decode cX7_put 34 = .ok (.ifCond .ne 6, 3) := by decide +kernel
theorem dX7_put_37 : decode cX7_put 37 = .ok (.bipush (-12), 2) := by decide +kernel
theorem dX7_put_39 : decode cX7_put 39 = .ok (.ireturn, 1) := by decide +kernel
theorem dX7_put_40 : decode cX7_put 40 = .ok (.aload_n 0, 1) := by decide +kernel
theorem dX7_put_41 : decode cX7_put 41 = .ok (.getfield 59, 3) := by decide +kernel
theorem dX7_put_44 : decode cX7_put 44 = .ok (.bipush 40, 2) := by decide +kernel
theorem dX7_put_46 : decode cX7_put 46 = .ok (.iload_n 1, 1) := by decide +kernel
theorem dX7_put_47 : decode cX7_put 47 = .ok (.imul, 1) := by decide +kernel
theorem dX7_put_48 : decode cX7_put 48 = .ok (.iload_n 2, 1) := by decide +kernel
theorem dX7_put_49 : decode cX7_put 49 = .ok (.iadd, 1) := by decide +kernel
theorem dX7_put_50 : decode cX7_put 50 = .ok (.aload_n 0, 1) := by decide +kernel
theorem dX7_put_51 : decode cX7_put 51 = .ok (.getfield 53, 3) := by decide +kernel
theorem dX7_put_54 : decode cX7_put 54 = .ok (.iload_n 1, 1) := by decide +kernel
theorem dX7_put_55 : decode cX7_put 55 = .ok (.iaload, 1) := by decide +kernel
theorem dX7_put_56 : decode cX7_put 56 = .ok (.ifCond .ne 9, 3) := by decide +kernel
theorem dX7_put_59 : decode cX7_put 59 = .ok (.iload_n 3, 1) := by decide +kernel
theorem dX7_put_60 : decode cX7_put 60 = .ok (.i2b, 1) := by decide +kernel
theorem dX7_put_61 : decode cX7_put 61 = .ok (.i2l, 1) := by decide +kernel
theorem dX7_put_62 : decode cX7_put 62 = .ok (.goto 21, 3) := by decide +kernel
theorem dX7_put_65 : decode cX7_put 65 = .ok (.aload_n 0, 1) := by decide +kernel
theorem dX7_put_66 : decode cX7_put 66 = .ok (.getfield 53, 3) := by decide +kernel
theorem dX7_put_69 : decode cX7_put 69 = .ok (.iload_n 1, 1) := by decide +kernel
theorem dX7_put_70 : decode cX7_put 70 = .ok (.iaload, 1) := by decide +kernel
theorem dX7_put_71 : decode cX7_put 71 = .ok (.iconst 1, 1) := by decide +kernel
theorem dX7_put_72 : decode cX7_put 72 = .ok (.if_icmp .ne 9, 3) := by decide +kernel
theorem dX7_put_75 : decode cX7_put 75 = .ok (.iload_n 3, 1) := by decide +kernel
theorem dX7_put_76 : decode cX7_put 76 = .ok (.i2s, 1) := by decide +kernel
theorem dX7_put_77 : decode cX7_put 77 = .ok (.i2l, 1) := by decide +kernel
theorem dX7_put_78 : decode cX7_put 78 = .ok (.goto 5, 3) := by decide +kernel
theorem dX7_put_81 : decode cX7_put 81 = .ok (.iload_n 3, 1) := by decide +kernel
theorem dX7_put_82 : decode cX7_put 82 = .ok (.i2l, 1) := by decide +kernel
theorem dX7_put_83 : decode cX7_put 83 = .ok (.lastore, 1) := by decide +kernel
theorem dX7_put_84 : decode cX7_put 84 = .ok (.iconst 1, 1) := by decide +kernel
theorem dX7_put_85 : decode cX7_put 85 = .ok (.ireturn, 1) := by decide +kernel
theorem dX7_lacksSort_0 : decode cX7_lacksSort 0 = .ok (.aload_n 0, 1) := by decide +kernel
theorem dX7_lacksSort_1 : decode cX7_lacksSort 1 = .ok (.getfield 53, 3) := by decide +kernel
theorem dX7_lacksSort_4 : decode cX7_lacksSort 4 = .ok (.iload_n 1, 1) := by decide +kernel
theorem dX7_lacksSort_5 : decode cX7_lacksSort 5 = .ok (.iaload, 1) := by decide +kernel
theorem dX7_lacksSort_6 : decode cX7_lacksSort 6 = .ok (.ifCond .ge 8, 3) := by decide +kernel
theorem dX7_lacksSort_9 : decode cX7_lacksSort 9 = .ok (.bipush (-11), 2) := by decide +kernel
theorem dX7_lacksSort_11 : decode cX7_lacksSort 11 = .ok (.goto 19, 3) := by decide +kernel
theorem dX7_lacksSort_14 : decode cX7_lacksSort 14 = .ok (.aload_n 0, 1) := by decide +kernel
theorem dX7_lacksSort_15 : decode cX7_lacksSort 15 = .ok (.getfield 53, 3) := by decide +kernel
theorem dX7_lacksSort_18 : decode cX7_lacksSort 18 = .ok (.iload_n 1, 1) := by decide +kernel
theorem dX7_lacksSort_19 : decode cX7_lacksSort 19 = .ok (.iaload, 1) := by decide +kernel
theorem dX7_lacksSort_20 : decode cX7_lacksSort 20 = .ok (.iload_n 2, 1) := by decide +kernel
theorem dX7_lacksSort_21 : decode cX7_lacksSort 21 = .ok (.if_icmp .eq 8, 3) := by decide +kernel
theorem dX7_lacksSort_24 : decode cX7_lacksSort 24 = .ok (.bipush (-13), 2) := by decide +kernel
theorem dX7_lacksSort_26 : decode cX7_lacksSort 26 = .ok (.goto 4, 3) := by decide +kernel
theorem dX7_lacksSort_29 : decode cX7_lacksSort 29 = .ok (.iconst 0, 1) := by decide +kernel
theorem dX7_lacksSort_30 : decode cX7_lacksSort 30 = .ok (.ireturn, 1) := by decide +kernel
theorem dX7_item_0 : decode cX7_item 0 = .ok (.iload_n 1, 1) := by decide +kernel
theorem dX7_item_1 : decode cX7_item 1 = .ok (.invokestatic 287, 3) := by decide +kernel
theorem dX7_item_4 : decode cX7_item 4 = .ok (.ifCond .eq 12, 3) := by decide +kernel
theorem dX7_item_7 : decode cX7_item 7 = .ok (.iload_n 2, 1) := by decide +kernel
theorem dX7_item_8 : decode cX7_item 8 = .ok (.iconst 0, 1) := by decide +kernel
theorem dX7_item_9 : decode cX7_item 9 = .ok (.iconst 3, 1) := by decide +kernel
theorem dX7_item_10 : decode cX7_item 10 = .ok (.invokestatic 81, 3) := by decide +kernel
theorem dX7_item_13 : decode cX7_item 13 = .ok (.ifCond .ne 5, 3) := by decide +kernel
theorem dX7_item_16 : decode cX7_item 16 = .ok (.iconst (-1), 1) := by decide +kernel
theorem dX7_item_17 : decode cX7_item 17 = .ok (.ireturn, 1) := by decide +kernel
theorem dX7_item_18 : decode cX7_item 18 = .ok (.aload_n 0, 1) := by decide +kernel
theorem dX7_item_19 : decode cX7_item 19 = .ok (.iload_n 1, 1) := by decide +kernel
theorem dX7_item_20 : decode cX7_item 20 = .ok (.iload_n 2, 1) := by decide +kernel
theorem dX7_item_21 : decode cX7_item 21 = .ok (.invokevirtual 290, 3) := by decide +kernel
theorem dX7_item_24 : decode cX7_item 24 = .ok (.istore 4, 2) := by decide +kernel
theorem dX7_item_26 : decode cX7_item 26 = .ok (.iload 4, 2) := by decide +kernel
theorem dX7_item_28 : decode cX7_item 28 = .ok (.ifCond .eq 6, 3) := by decide +kernel
theorem dX7_item_31 : decode cX7_item 31 = .ok (.iload 4, 2) := by decide +kernel
theorem dX7_item_33 : decode cX7_item 33 = .ok (.ireturn, 1) := by decide +kernel
theorem dX7_item_34 : decode cX7_item 34 = .ok (.iload_n 3, 1) := by decide +kernel
theorem dX7_item_35 : decode cX7_item 35 = .ok (.iconst 0, 1) := by decide +kernel
theorem dX7_item_36 : decode cX7_item 36 = .ok (.aload_n 0, 1) := by decide +kernel
theorem dX7_item_37 : decode cX7_item 37 = .ok (.getfield 56, 3) := by decide +kernel
theorem dX7_item_40 : decode cX7_item 40 = .ok (.iload_n 1, 1) := by decide +kernel
theorem dX7_item_41 : decode cX7_item 41 = .ok (.iaload, 1) := by decide +kernel
theorem dX7_item_42 : decode cX7_item 42 = .ok (.iconst 1, 1) := by decide +kernel
theorem dX7_item_43 : decode cX7_item 43 = .ok (.isub, 1) := by decide +kernel
theorem dX7_item_44 : decode cX7_item 44 = .ok (.invokestatic 81, 3) := by decide +kernel
theorem dX7_item_47 : decode cX7_item 47 = .ok (.ifCond .eq 18, 3) := by decide +kernel
theorem dX7_item_50 : decode cX7_item 50 = .ok (.aload_n 0, 1) := by decide +kernel
theorem dX7_item_51 : decode cX7_item 51 = .ok (.getfield 59, 3) := by decide +kernel
theorem dX7_item_54 : decode cX7_item 54 = .ok (.bipush 40, 2) := by decide +kernel
theorem dX7_item_56 : decode cX7_item 56 = .ok (.iload_n 1, 1) := by decide +kernel
theorem dX7_item_57 : decode cX7_item 57 = .ok (.imul, 1) := by decide +kernel
theorem dX7_item_58 : decode cX7_item 58 = .ok (.iload_n 3, 1) := by decide +kernel
theorem dX7_item_59 : decode cX7_item 59 = .ok (.iadd, 1) := by decide +kernel
theorem dX7_item_60 : decode cX7_item 60 = .ok (.laload, 1) := by decide +kernel
theorem dX7_item_61 : decode cX7_item 61 = .ok (.l2i, 1) := by decide +kernel
theorem dX7_item_62 : decode cX7_item 62 = .ok (.goto 5, 3) := by decide +kernel
theorem dX7_item_65 : decode cX7_item 65 = .ok (.bipush (-12), 2) := by decide +kernel
theorem dX7_item_67 : decode cX7_item 67 = .ok (.ireturn, 1) := by decide +kernel
theorem dX7_mayHold_0 : decode cX7_mayHold 0 = .ok (.iload_n 1, 1) := by decide +kernel
theorem dX7_mayHold_1 : decode cX7_mayHold 1 = .ok (.ifCond .ne 11, 3) := by decide +kernel
theorem dX7_mayHold_4 : decode cX7_mayHold 4 = .ok (.aload_n 0, 1) := by decide +kernel
theorem dX7_mayHold_5 : decode cX7_mayHold 5 = .ok (.iload_n 2, 1) := by decide +kernel
theorem dX7_mayHold_6 : decode cX7_mayHold 6 = .ok (.invokevirtual 210, 3) := by decide +kernel
theorem dX7_mayHold_9 : decode cX7_mayHold 9 = .ok (.goto 25, 3) := by decide +kernel
theorem dX7_mayHold_12 : decode cX7_mayHold 12 = .ok (.iload_n 1, 1) := by decide +kernel
theorem dX7_mayHold_13 : decode cX7_mayHold 13 = .ok (.iconst 1, 1) := by decide +kernel
theorem dX7_mayHold_14 : decode cX7_mayHold 14 = .ok (.if_icmp .ne 10, 3) := by decide +kernel
theorem dX7_mayHold_17 : decode cX7_mayHold 17 = .ok (.iload_n 2, 1) := by decide +kernel
theorem dX7_mayHold_18 : decode cX7_mayHold 18 = .ok (.invokestatic 287, 3) := by decide +kernel
theorem dX7_mayHold_21 : decode cX7_mayHold 21 = .ok (.goto 13, 3) := by decide +kernel
theorem dX7_mayHold_24 : decode cX7_mayHold 24 = .ok (.iload_n 1, 1) := by decide +kernel
theorem dX7_mayHold_25 : decode cX7_mayHold 25 = .ok (.iconst 2, 1) := by decide +kernel
theorem dX7_mayHold_26 : decode cX7_mayHold 26 = .ok (.if_icmp .ne 7, 3) := by decide +kernel
theorem dX7_mayHold_29 : decode cX7_mayHold 29 = .ok (.iconst 1, 1) := by decide +kernel
theorem dX7_mayHold_30 : decode cX7_mayHold 30 = .ok (.goto 4, 3) := by decide +kernel
theorem dX7_mayHold_33 : decode cX7_mayHold 33 = .ok (.iconst 0, 1) := by decide +kernel
theorem dX7_mayHold_34 : decode cX7_mayHold 34 = .ok (.ireturn, 1) := by decide +kernel
theorem dX7_shelf_0 : decode cX7_shelf 0 = .ok (.iload_n 1, 1) := by decide +kernel
theorem dX7_shelf_1 : decode cX7_shelf 1 = .ok (.invokestatic 287, 3) := by decide +kernel
theorem dX7_shelf_4 : decode cX7_shelf 4 = .ok (.ifCond .eq 12, 3) := by decide +kernel
theorem dX7_shelf_7 : decode cX7_shelf 7 = .ok (.aload_n 0, 1) := by decide +kernel
theorem dX7_shelf_8 : decode cX7_shelf 8 = .ok (.iload_n 2, 1) := by decide +kernel
theorem dX7_shelf_9 : decode cX7_shelf 9 = .ok (.iload_n 3, 1) := by decide +kernel
theorem dX7_shelf_10 : decode cX7_shelf 10 = .ok (.invokevirtual 295, 3) := by decide +kernel
theorem dX7_shelf_13 : decode cX7_shelf 13 = .ok (.ifCond .ne 5, 3) := by decide +kernel
theorem dX7_shelf_16 : decode cX7_shelf 16 = .ok (.iconst (-1), 1) := by decide +kernel
theorem dX7_shelf_17 : decode cX7_shelf 17 = .ok (.ireturn, 1) := by decide +kernel
theorem dX7_shelf_18 : decode cX7_shelf 18 = .ok (.aload_n 0, 1) := by decide +kernel
theorem dX7_shelf_19 : decode cX7_shelf 19 = .ok (.getfield 63, 3) := by decide +kernel
theorem dX7_shelf_22 : decode cX7_shelf 22 = .ok (.iload_n 1, 1) := by decide +kernel
theorem dX7_shelf_23 : decode cX7_shelf 23 = .ok (.iload_n 2, 1) := by decide +kernel
theorem dX7_shelf_24 : decode cX7_shelf 24 = .ok (.iconst 2, 1) := by decide +kernel
theorem dX7_shelf_25 : decode cX7_shelf 25 = .ok (.if_icmp .eq 17, 3) := by decide +kernel
theorem dX7_shelf_28 : decode cX7_shelf 28 = .ok (.iload_n 2, 1) := by decide +kernel
theorem dX7_shelf_29 : decode cX7_shelf 29 = .ok (.iconst 1, 1) := by decide +kernel
theorem dX7_shelf_30 : decode cX7_shelf 30 = .ok (.if_icmp .ne 16, 3) := by decide +kernel
theorem dX7_shelf_33 : decode cX7_shelf 33 = .ok (.aload_n 0, 1) := by decide +kernel
theorem dX7_shelf_34 : decode cX7_shelf 34 = .ok (.getfield 53, 3) := by decide +kernel
theorem dX7_shelf_37 : decode cX7_shelf 37 = .ok (.iload_n 3, 1) := by decide +kernel
theorem dX7_shelf_38 : decode cX7_shelf 38 = .ok (.iaload, 1) := by decide +kernel
theorem dX7_shelf_39 : decode cX7_shelf 39 = .ok (.ifCond .ge 7, 3) := by decide +kernel
theorem dX7_shelf_42 : decode cX7_shelf 42 = .ok (.iconst (-1), 1) := by decide +kernel
theorem dX7_shelf_43 : decode cX7_shelf 43 = .ok (.goto 4, 3) := by decide +kernel
theorem dX7_shelf_46 : decode cX7_shelf 46 = .ok (.iload_n 2, 1) := by decide +kernel
theorem dX7_shelf_47 : decode cX7_shelf 47 = .ok (.iastore, 1) := by decide +kernel
theorem dX7_shelf_48 : decode cX7_shelf 48 = .ok (.aload_n 0, 1) := by decide +kernel
theorem dX7_shelf_49 : decode cX7_shelf 49 = .ok (.getfield 66, 3) := by decide +kernel
theorem dX7_shelf_52 : decode cX7_shelf 52 = .ok (.iload_n 1, 1) := by decide +kernel
theorem dX7_shelf_53 : decode cX7_shelf 53 = .ok (.iload_n 2, 1) := by decide +kernel
theorem dX7_shelf_54 : decode cX7_shelf 54 = .ok (.iconst 1, 1) := by decide +kernel
theorem dX7_shelf_55 : decode cX7_shelf 55 = .ok (.if_icmp .ne 12, 3) := by decide +kernel
theorem dX7_shelf_58 : decode cX7_shelf 58 = .ok (.aload_n 0, 1) := by decide +kernel
theorem dX7_shelf_59 : decode cX7_shelf 59 = .ok (.getfield 53, 3) := by decide +kernel
theorem dX7_shelf_62 : decode cX7_shelf 62 = .ok (.iload_n 3, 1) := by decide +kernel
theorem dX7_shelf_63 : decode cX7_shelf 63 = .ok (.iaload, 1) := by decide +kernel
theorem dX7_shelf_64 : decode cX7_shelf 64 = .ok (.goto 4, 3) := by decide +kernel
theorem dX7_shelf_67 : decode cX7_shelf 67 = .ok (.iload_n 3, 1) := by decide +kernel
theorem dX7_shelf_68 : decode cX7_shelf 68 = .ok (.iastore, 1) := by decide +kernel
theorem dX7_shelf_69 : decode cX7_shelf 69 = .ok (.aload_n 0, 1) := by decide +kernel
theorem dX7_shelf_70 : decode cX7_shelf 70 = .ok (.getfield 69, 3) := by decide +kernel
theorem dX7_shelf_73 : decode cX7_shelf 73 = .ok (.iload_n 1, 1) := by decide +kernel
theorem dX7_shelf_74 : decode cX7_shelf 74 = .ok (.iload_n 2, 1) := by decide +kernel
theorem dX7_shelf_75 : decode cX7_shelf 75 = .ok (.iconst 1, 1) := by decide +kernel
theorem dX7_shelf_76 : decode cX7_shelf 76 = .ok (.if_icmp .ne 12, 3) := by decide +kernel
theorem dX7_shelf_79 : decode cX7_shelf 79 = .ok (.aload_n 0, 1) := by decide +kernel
theorem dX7_shelf_80 : decode cX7_shelf 80 = .ok (.getfield 56, 3) := by decide +kernel
theorem dX7_shelf_83 : decode cX7_shelf 83 = .ok (.iload_n 3, 1) := by decide +kernel
theorem dX7_shelf_84 : decode cX7_shelf 84 = .ok (.iaload, 1) := by decide +kernel
theorem dX7_shelf_85 : decode cX7_shelf 85 = .ok (.goto 4, 3) := by decide +kernel
theorem dX7_shelf_88 : decode cX7_shelf 88 = .ok (.iconst 0, 1) := by decide +kernel
theorem dX7_shelf_89 : decode cX7_shelf 89 = .ok (.iastore, 1) := by decide +kernel
theorem dX7_shelf_90 : decode cX7_shelf 90 = .ok (.iconst 1, 1) := by decide +kernel
theorem dX7_shelf_91 : decode cX7_shelf 91 = .ok (.ireturn, 1) := by decide +kernel
theorem dX7_kindOn_0 : decode cX7_kindOn 0 = .ok (.aload_n 0, 1) := by decide +kernel
theorem dX7_kindOn_1 : decode cX7_kindOn 1 = .ok (.getfield 63, 3) := by decide +kernel
theorem dX7_kindOn_4 : decode cX7_kindOn 4 = .ok (.iload_n 1, 1) := by decide +kernel
theorem dX7_kindOn_5 : decode cX7_kindOn 5 = .ok (.iaload, 1) := by decide +kernel
theorem dX7_kindOn_6 : decode cX7_kindOn 6 = .ok (.ifCond .eq 19, 3) := by decide +kernel
theorem dX7_kindOn_9 : decode cX7_kindOn 9 = .ok (.aload_n 0, 1) := by decide +kernel
theorem dX7_kindOn_10 : decode cX7_kindOn 10 = .ok (.getfield 63, 3) := by decide +kernel
theorem dX7_kindOn_13 : decode cX7_kindOn 13 = .ok (.iload_n 1, 1) := by decide +kernel
theorem dX7_kindOn_14 : decode cX7_kindOn 14 = .ok (.iaload, 1) := by decide +kernel
theorem dX7_kindOn_15 : decode cX7_kindOn 15 = .ok (.ifCond .ge 7, 3) := by decide +kernel
theorem dX7_kindOn_18 : decode cX7_kindOn 18 = .ok (.iconst (-1), 1) := by decide +kernel
theorem dX7_kindOn_19 : decode cX7_kindOn 19 = .ok (.goto 5, 3) := by decide +kernel
theorem dX7_kindOn_22 : decode cX7_kindOn 22 = .ok (.bipush 9, 2) := by decide +kernel
theorem dX7_kindOn_24 : decode cX7_kindOn 24 = .ok (.ireturn, 1) := by decide +kernel
theorem dX7_kindOn_25 : decode cX7_kindOn 25 = .ok (.aload_n 0, 1) := by decide +kernel
theorem dX7_kindOn_26 : decode cX7_kindOn 26 = .ok (.aload_n 0, 1) := by decide +kernel
theorem dX7_kindOn_27 : decode cX7_kindOn 27 = .ok (.getfield 66, 3) := by decide +kernel
theorem dX7_kindOn_30 : decode cX7_kindOn 30 = .ok (.iload_n 1, 1) := by decide +kernel
theorem dX7_kindOn_31 : decode cX7_kindOn 31 = .ok (.iaload, 1) := by decide +kernel
theorem dX7_kindOn_32 : decode cX7_kindOn 32 = .ok (.invokevirtual 210, 3) := by decide +kernel
theorem dX7_kindOn_35 : decode cX7_kindOn 35 = .ok (.ifCond .eq 17, 3) := by decide +kernel
theorem dX7_kindOn_38 : decode cX7_kindOn 38 = .ok (.aload_n 0, 1) := by decide +kernel
theorem dX7_kindOn_39 : decode cX7_kindOn 39 = .ok (.aload_n 0, 1) := by decide +kernel
theorem dX7_kindOn_40 : decode cX7_kindOn 40 = .ok (.getfield 66, 3) := by decide +kernel
theorem dX7_kindOn_43 : decode cX7_kindOn 43 = .ok (.iload_n 1, 1) := by decide +kernel
theorem dX7_kindOn_44 : decode cX7_kindOn 44 = .ok (.iaload, 1) := by decide +kernel
theorem dX7_kindOn_45 : decode cX7_kindOn 45 = .ok (.iconst 0, 1) := by decide +kernel
theorem dX7_kindOn_46 : decode cX7_kindOn 46 = .ok (.invokevirtual 213, 3) := by decide +kernel
theorem dX7_kindOn_49 : decode cX7_kindOn 49 = .ok (.goto 4, 3) := by decide +kernel
theorem dX7_kindOn_52 : decode cX7_kindOn 52 = .ok (.iconst (-1), 1) := by decide +kernel
theorem dX7_kindOn_53 : decode cX7_kindOn 53 = .ok (.ireturn, 1) := by decide +kernel
theorem dX7_isUnder_0 : decode cX7_isUnder 0 = .ok (.iload_n 1, 1) := by decide +kernel
theorem dX7_isUnder_1 : decode cX7_isUnder 1 = .ok (.ifCond .eq 38, 3) := by decide +kernel
theorem dX7_isUnder_4 : decode cX7_isUnder 4 = .ok (.iload_n 1, 1) := by decide +kernel
theorem dX7_isUnder_5 : decode cX7_isUnder 5 = .ok (.iload_n 0, 1) := by decide +kernel
theorem dX7_isUnder_6 : decode cX7_isUnder 6 = .ok (.if_icmp .eq 33, 3) := by decide +kernel
theorem dX7_isUnder_9 : decode cX7_isUnder 9 = .ok (.iload_n 1, 1) := by decide +kernel
theorem dX7_isUnder_10 : decode cX7_isUnder 10 = .ok (.iconst 1, 1) := by decide +kernel
theorem dX7_isUnder_11 : decode cX7_isUnder 11 = .ok (.if_icmp .ne 18, 3) := by decide +kernel
theorem dX7_isUnder_14 : decode cX7_isUnder 14 = .ok (.iload_n 0, 1) := by decide +kernel
theorem dX7_isUnder_15 : decode cX7_isUnder 15 = .ok (.iconst 4, 1) := by decide +kernel
theorem dX7_isUnder_16 : decode cX7_isUnder 16 = .ok (.if_icmp .eq 23, 3) := by decide +kernel
theorem dX7_isUnder_19 : decode cX7_isUnder 19 = .ok (.iload_n 0, 1) := by decide +kernel
theorem dX7_isUnder_20 : decode cX7_isUnder 20 = .ok (.iconst 2, 1) := by decide +kernel
theorem dX7_isUnder_21 : decode cX7_isUnder 21 = .ok (.if_icmp .eq 18, 3) := by decide +kernel
theorem dX7_isUnder_24 : decode cX7_isUnder 24 = .ok (.iload_n 0, 1) := by decide +kernel
theorem dX7_isUnder_25 : decode cX7_isUnder 25 = .ok (.iconst 5, 1) := by decide +kernel
theorem dX7_isUnder_26 : decode cX7_isUnder 26 = .ok (.if_icmp .eq 13, 3) := by decide +kernel
theorem dX7_isUnder_29 : decode cX7_isUnder 29 = .ok (.iload_n 1, 1) := by decide +kernel
theorem dX7_isUnder_30 : decode cX7_isUnder 30 = .ok (.iconst 2, 1) := by decide +kernel
theorem dX7_isUnder_31 : decode cX7_isUnder 31 = .ok (.if_icmp .ne 12, 3) := by decide +kernel
theorem dX7_isUnder_34 : decode cX7_isUnder 34 = .ok (.iload_n 0, 1) := by decide +kernel
theorem dX7_isUnder_35 : decode cX7_isUnder 35 = .ok (.iconst 5, 1) := by decide +kernel
theorem dX7_isUnder_36 : decode cX7_isUnder 36 = .ok (.if_icmp .ne 7, 3) := by decide +kernel
theorem dX7_isUnder_39 : decode cX7_isUnder 39 = .ok (.iconst 1, 1) := by decide +kernel
theorem dX7_isUnder_40 : decode cX7_isUnder 40 = .ok (.goto 4, 3) := by decide +kernel
theorem dX7_isUnder_43 : decode cX7_isUnder 43 = .ok (.iconst 0, 1) := by decide +kernel
theorem dX7_isUnder_44 : decode cX7_isUnder 44 = .ok (.ireturn, 1) := by decide +kernel
theorem dX7_taken_0 : decode cX7_taken 0 = .ok (.iload_n 1, 1) := by decide +kernel
theorem dX7_taken_1 : decode cX7_taken 1 = .ok (.invokestatic 287, 3) := by decide +kernel
theorem dX7_taken_4 : decode cX7_taken 4 = .ok (.ifCond .eq 23, 3) := by decide +kernel
theorem dX7_taken_7 : decode cX7_taken 7 = .ok (.iload_n 2, 1) := by decide +kernel
theorem dX7_taken_8 : decode cX7_taken 8 = .ok (.iconst 0, 1) := by decide +kernel
theorem dX7_taken_9 : decode cX7_taken 9 = .ok (.iconst 5, 1) := by decide +kernel
theorem dX7_taken_10 : decode cX7_taken 10 = .ok (.invokestatic 81, 3) := by decide +kernel
theorem dX7_taken_13 : decode cX7_taken 13 = .ok (.ifCond .ne 16, 3) := by decide +kernel
theorem dX7_taken_16 : decode cX7_taken 16 = .ok (.iload_n 2, 1) := by decide +kernel
theorem dX7_taken_17 : decode cX7_taken 17 = .ok (.bipush 10, 2) := by decide +kernel
theorem dX7_taken_19 : decode cX7_taken 19 = .ok (.bipush 13, 2) := by decide +kernel
theorem dX7_taken_21 : decode cX7_taken 21 = .ok (.invokestatic 81, 3) := by decide +kernel
theorem dX7_taken_24 : decode cX7_taken 24 = .ok (.ifCond .ne 5, 3) := by decide +kernel
theorem dX7_taken_27 : decode cX7_taken 27 = .ok (.iconst (-1), 1) := by decide +kernel
theorem dX7_taken_28 : decode cX7_taken 28 = .ok (.ireturn, 1) := by decide +kernel
theorem dX7_taken_29 : decode cX7_taken 29 = .ok (.aload_n 0, 1) := by decide +kernel
theorem dX7_taken_30 : decode cX7_taken 30 = .ok (.iload_n 1, 1) := by decide +kernel
theorem dX7_taken_31 : decode cX7_taken 31 = .ok (.invokevirtual 298, 3) := by decide +kernel
theorem dX7_taken_34 : decode cX7_taken 34 = .ok (.istore_n 3, 1) := by decide +kernel
theorem dX7_taken_35 : decode cX7_taken 35 = .ok (.iload_n 3, 1) := by decide +kernel
theorem dX7_taken_36 : decode cX7_taken 36 = .ok (.ifCond .ge 6, 3) := by decide +kernel
theorem dX7_taken_39 : decode cX7_taken 39 = .ok (.bipush (-11), 2) := by decide +kernel
theorem dX7_taken_41 : decode cX7_taken 41 = .ok (.ireturn, 1) := by decide +kernel
theorem dX7_taken_42 : decode cX7_taken 42 = .ok (.iload_n 3, 1) := by decide +kernel
theorem dX7_taken_43 : decode cX7_taken 43 = .ok (.bipush 9, 2) := by decide +kernel
theorem dX7_taken_45 : decode cX7_taken 45 = .ok (.if_icmp .ne 28, 3) := by decide +kernel
theorem dX7_taken_48 : decode cX7_taken 48 = .ok (.iload_n 2, 1) := by decide +kernel
theorem dX7_taken_49 : decode cX7_taken 49 = .ok (.bipush 10, 2) := by decide +kernel
theorem dX7_taken_51 : decode cX7_taken 51 = .ok (.aload_n 0, 1) := by decide +kernel
theorem dX7_taken_52 : decode cX7_taken 52 = .ok (.getfield 66, 3) := by decide +kernel
theorem dX7_taken_55 : decode cX7_taken 55 = .ok (.iload_n 1, 1) := by decide +kernel
theorem dX7_taken_56 : decode cX7_taken 56 = .ok (.iaload, 1) := by decide +kernel
theorem dX7_taken_57 : decode cX7_taken 57 = .ok (.iadd, 1) := by decide +kernel
theorem dX7_taken_58 : decode cX7_taken 58 = .ok (.if_icmp .ne 12, 3) := by decide +kernel
theorem dX7_taken_61 : decode cX7_taken 61 = .ok (.aload_n 0, 1) := by decide +kernel
theorem dX7_taken_62 : decode cX7_taken 62 = .ok (.getfield 69, 3) := by decide +kernel
theorem dX7_taken_65 : decode cX7_taken 65 = .ok (.iload_n 1, 1) := by decide +kernel
theorem dX7_taken_66 : decode cX7_taken 66 = .ok (.iaload, 1) := by decide +kernel
theorem dX7_taken_67 : decode cX7_taken 67 = .ok (.goto 5, 3) := by decide +kernel
theorem dX7_taken_70 : decode cX7_taken 70 = .ok (.bipush (-13), 2) := by decide +kernel
theorem dX7_taken_72 : decode cX7_taken 72 = .ok (.ireturn, 1) := by decide +kernel
theorem dX7_taken_73 : decode cX7_taken 73 = .ok (.iload_n 2, 1) := by decide +kernel
theorem dX7_taken_74 : decode cX7_taken 74 = .ok (.bipush 10, 2) := by decide +kernel
theorem dX7_taken_76 : decode cX7_taken 76 = .ok (.if_icmp .ge 20, 3) := by decide +kernel
theorem dX7_taken_79 : decode cX7_taken 79 = .ok (.iload_n 3, 1) := by decide +kernel
theorem dX7_taken_80 : decode cX7_taken 80 = .ok (.iload_n 2, 1) := by decide +kernel
theorem dX7_taken_81 : decode cX7_taken 81 = .ok (.invokestatic 301, 3) := by decide +kernel
theorem dX7_taken_84 : decode cX7_taken 84 = .ok (.ifCond .eq 12, 3) := by decide +kernel
theorem dX7_taken_87 : decode cX7_taken 87 = .ok (.aload_n 0, 1) := by decide +kernel
theorem dX7_taken_88 : decode cX7_taken 88 = .ok (.getfield 66, 3) := by decide +kernel
theorem dX7_taken_91 : decode cX7_taken 91 = .ok (.iload_n 1, 1) := by decide +kernel
theorem dX7_taken_92 : decode cX7_taken 92 = .ok (.iaload, 1) := by decide +kernel
theorem dX7_taken_93 : decode cX7_taken 93 = .ok (.goto 5, 3) := by decide +kernel
theorem dX7_taken_96 : decode cX7_taken 96 = .ok (.bipush (-13), 2) := by decide +kernel
theorem dX7_taken_98 : decode cX7_taken 98 = .ok (.ireturn, 1) := by decide +kernel
theorem dX7_ran_0 : decode cX7_ran 0 = .ok (.aload_n 0, 1) := by decide +kernel
theorem dX7_ran_1 : decode cX7_ran 1 = .ok (.getfield 304, 3) := by decide +kernel
theorem dX7_ran_4 : decode cX7_ran 4 = .ok (.bipush 30, 2) := by decide +kernel
theorem dX7_ran_6 : decode cX7_ran 6 = .ok (.if_icmp .ge 23, 3) := by decide +kernel
theorem dX7_ran_9 : decode cX7_ran 9 = .ok (.aload_n 0, 1) := by decide +kernel
theorem dX7_ran_10 : decode cX7_ran 10 = .ok (.getfield 72, 3) := by decide +kernel
theorem dX7_ran_13 : decode cX7_ran 13 = .ok (.aload_n 0, 1) := by decide +kernel
theorem dX7_ran_14 : decode cX7_ran 14 = .ok (.getfield 304, 3) := by decide +kernel
theorem dX7_ran_17 : decode cX7_ran 17 = .ok (.iload_n 1, 1) := by decide +kernel
theorem dX7_ran_18 : decode cX7_ran 18 = .ok (.iastore, 1) := by decide +kernel
theorem dX7_ran_19 : decode cX7_ran 19 = .ok (.aload_n 0, 1) := by decide +kernel
theorem dX7_ran_20 : decode cX7_ran 20 = .ok (.dup, 1) := by decide +kernel
theorem dX7_ran_21 : decode cX7_ran 21 = .ok (.getfield 304, 3) := by decide +kernel
theorem dX7_ran_24 : decode cX7_ran 24 = .ok (.iconst 1, 1) := by decide +kernel
theorem dX7_ran_25 : decode cX7_ran 25 = .ok (.iadd, 1) := by decide +kernel
theorem dX7_ran_26 : decode cX7_ran 26 = .ok (.putfield 304, 3) := by decide +kernel
theorem dX7_ran_29 : decode cX7_ran 29 = .ok (.return_, 1) := by decide +kernel
theorem dX7_plainCalls_0 : decode cX7_plainCalls 0 = .ok (.aload_n 0, 1) := by decide +kernel
theorem dX7_plainCalls_1 : decode cX7_plainCalls 1 = .ok (.bipush 10, 2) := by decide +kernel
theorem dX7_plainCalls_3 : decode cX7_plainCalls 3 = .ok (.invokevirtual 307, 3) := by decide +kernel
theorem dX7_plainCalls_6 : decode cX7_plainCalls 6 = .ok (.iload_n 1, 1) := by decide +kernel
theorem dX7_plainCalls_7 : decode cX7_plainCalls 7 = .ok (.aload_n 0, 1) := by decide +kernel
theorem dX7_plainCalls_8 : decode cX7_plainCalls 8 = .ok (.getfield 310, 3) := by decide +kernel
theorem dX7_plainCalls_11 : decode cX7_plainCalls 11 = .ok (.iadd, 1) := by decide +kernel
theorem dX7_plainCalls_12 : decode cX7_plainCalls 12 = .ok (.ireturn, 1) := by decide +kernel
theorem dX7_callsIt_0 : decode cX7_callsIt 0 = .ok (.aload_n 0, 1) := by decide +kernel
theorem dX7_callsIt_1 : decode cX7_callsIt 1 = .ok (.getfield 313, 3) := by decide +kernel
theorem dX7_callsIt_4 : decode cX7_callsIt 4 = .ok (.tableswitch 77 2 5 #[46, 32, 60, 46], 32) := by decide +kernel
theorem dX7_callsIt_36 : decode cX7_callsIt 36 = .ok (.aload_n 0, 1) := by decide +kernel
theorem dX7_callsIt_37 : decode cX7_callsIt 37 = .ok (.bipush 30, 2) := by decide +kernel
theorem dX7_callsIt_39 : decode cX7_callsIt 39 = .ok (.invokevirtual 307, 3) := by decide +kernel
theorem dX7_callsIt_42 : decode cX7_callsIt 42 = .ok (.aload_n 0, 1) := by decide +kernel
theorem dX7_callsIt_43 : decode cX7_callsIt 43 = .ok (.iload_n 1, 1) := by decide +kernel
theorem dX7_callsIt_44 : decode cX7_callsIt 44 = .ok (.invokevirtual 316, 3) := by decide +kernel
theorem dX7_callsIt_47 : decode cX7_callsIt 47 = .ok (.iconst 3, 1) := by decide +kernel
theorem dX7_callsIt_48 : decode cX7_callsIt 48 = .ok (.imul, 1) := by decide +kernel
theorem dX7_callsIt_49 : decode cX7_callsIt 49 = .ok (.ireturn, 1) := by decide +kernel
theorem dX7_callsIt_50 : decode cX7_callsIt 50 = .ok (.aload_n 0, 1) := by decide +kernel
theorem dX7_callsIt_51 : decode cX7_callsIt 51 = .ok (.bipush 40, 2) := by decide +kernel
theorem dX7_callsIt_53 : decode cX7_callsIt 53 = .ok (.invokevirtual 307, 3) := by decide +kernel
theorem dX7_callsIt_56 : decode cX7_callsIt 56 = .ok (.iconst 0, 1) := by decide +kernel
theorem dX7_callsIt_57 : decode cX7_callsIt 57 = .ok (.aload_n 0, 1) := by decide +kernel
theorem dX7_callsIt_58 : decode cX7_callsIt 58 = .ok (.iload_n 1, 1) := by decide +kernel
theorem dX7_callsIt_59 : decode cX7_callsIt 59 = .ok (.invokevirtual 316, 3) := by decide +kernel
theorem dX7_callsIt_62 : decode cX7_callsIt 62 = .ok (.isub, 1) := by decide +kernel
theorem dX7_callsIt_63 : decode cX7_callsIt 63 = .ok (.ireturn, 1) := by decide +kernel
theorem dX7_callsIt_64 : decode cX7_callsIt 64 = .ok (.aload_n 0, 1) := by decide +kernel
theorem dX7_callsIt_65 : decode cX7_callsIt 65 = .ok (.bipush 51, 2) := by decide +kernel
theorem dX7_callsIt_67 : decode cX7_callsIt 67 = .ok (.invokevirtual 307, 3) := by decide +kernel
theorem dX7_callsIt_70 : decode cX7_callsIt 70 = .ok (.aload_n 0, 1) := by decide +kernel
theorem dX7_callsIt_71 : decode cX7_callsIt 71 = .ok (.iload_n 1, 1) := by decide +kernel
theorem dX7_callsIt_72 : decode cX7_callsIt 72 = .ok (.invokevirtual 316, 3) := by decide +kernel
theorem dX7_callsIt_75 : decode cX7_callsIt 75 = .ok (.aload_n 0, 1) := by decide +kernel
theorem dX7_callsIt_76 : decode cX7_callsIt 76 = .ok (.getfield 310, 3) := by decide +kernel
theorem dX7_callsIt_79 : decode cX7_callsIt 79 = .ok (.isub, 1) := by decide +kernel
theorem dX7_callsIt_80 : decode cX7_callsIt 80 = .ok (.ireturn, 1) := by decide +kernel
theorem dX7_callsIt_81 : decode cX7_callsIt 81 = .ok (.aload_n 0, 1) := by decide +kernel
theorem dX7_callsIt_82 : decode cX7_callsIt 82 = .ok (.iload_n 1, 1) := by decide +kernel
theorem dX7_callsIt_83 : decode cX7_callsIt 83 = .ok (.invokevirtual 316, 3) := by decide +kernel
theorem dX7_callsIt_86 : decode cX7_callsIt 86 = .ok (.ireturn, 1) := by decide +kernel
theorem dX7_plainHolds_0 : decode cX7_plainHolds 0 = .ok (.aload_n 0, 1) := by decide +kernel
theorem dX7_plainHolds_1 : decode cX7_plainHolds 1 = .ok (.bipush 11, 2) := by decide +kernel
theorem dX7_plainHolds_3 : decode cX7_plainHolds 3 = .ok (.invokevirtual 307, 3) := by decide +kernel
theorem dX7_plainHolds_6 : decode cX7_plainHolds 6 = .ok (.aload_n 0, 1) := by decide +kernel
theorem dX7_plainHolds_7 : decode cX7_plainHolds 7 = .ok (.iload_n 1, 1) := by decide +kernel
theorem dX7_plainHolds_8 : decode cX7_plainHolds 8 = .ok (.invokevirtual 319, 3) := by decide +kernel
theorem dX7_plainHolds_11 : decode cX7_plainHolds 11 = .ok (.iconst 2, 1) := by decide +kernel
theorem dX7_plainHolds_12 : decode cX7_plainHolds 12 = .ok (.imul, 1) := by decide +kernel
theorem dX7_plainHolds_13 : decode cX7_plainHolds 13 = .ok (.ireturn, 1) := by decide +kernel
theorem dX7_lineHolds_0 : decode cX7_lineHolds 0 = .ok (.aload_n 0, 1) := by decide +kernel
theorem dX7_lineHolds_1 : decode cX7_lineHolds 1 = .ok (.bipush 20, 2) := by decide +kernel
theorem dX7_lineHolds_3 : decode cX7_lineHolds 3 = .ok (.invokevirtual 307, 3) := by decide +kernel
theorem dX7_lineHolds_6 : decode cX7_lineHolds 6 = .ok (.aload_n 0, 1) := by decide +kernel
theorem dX7_lineHolds_7 : decode cX7_lineHolds 7 = .ok (.iload_n 1, 1) := by decide +kernel
theorem dX7_lineHolds_8 : decode cX7_lineHolds 8 = .ok (.invokevirtual 322, 3) := by decide +kernel
theorem dX7_lineHolds_11 : decode cX7_lineHolds 11 = .ok (.aload_n 0, 1) := by decide +kernel
theorem dX7_lineHolds_12 : decode cX7_lineHolds 12 = .ok (.getfield 325, 3) := by decide +kernel
theorem dX7_lineHolds_15 : decode cX7_lineHolds 15 = .ok (.isub, 1) := by decide +kernel
theorem dX7_lineHolds_16 : decode cX7_lineHolds 16 = .ok (.ireturn, 1) := by decide +kernel
theorem dX7_holdsIt_0 : decode cX7_holdsIt 0 = .ok (.aload_n 0, 1) := by decide +kernel
theorem dX7_holdsIt_1 : decode cX7_holdsIt 1 = .ok (.getfield 313, 3) := by decide +kernel
theorem dX7_holdsIt_4 : decode cX7_holdsIt 4 = .ok (.iconst 1, 1) := by decide +kernel
theorem dX7_holdsIt_5 : decode cX7_holdsIt 5 = .ok (.if_icmp .eq 11, 3) := by decide +kernel
theorem dX7_holdsIt_8 : decode cX7_holdsIt 8 = .ok (.aload_n 0, 1) := by decide +kernel
theorem dX7_holdsIt_9 : decode cX7_holdsIt 9 = .ok (.getfield 313, 3) := by decide +kernel
theorem dX7_holdsIt_12 : decode cX7_holdsIt 12 = .ok (.iconst 4, 1) := by decide +kernel
theorem dX7_holdsIt_13 : decode cX7_holdsIt 13 = .ok (.if_icmp .ne 9, 3) := by decide +kernel
theorem dX7_holdsIt_16 : decode cX7_holdsIt 16 = .ok (.aload_n 0, 1) := by decide +kernel
theorem dX7_holdsIt_17 : decode cX7_holdsIt 17 = .ok (.iload_n 1, 1) := by decide +kernel
theorem dX7_holdsIt_18 : decode cX7_holdsIt 18 = .ok (.invokevirtual 328, 3) := by decide +kernel
theorem dX7_holdsIt_21 : decode cX7_holdsIt 21 = .ok (.ireturn, 1) := by decide +kernel
theorem dX7_holdsIt_22 : decode cX7_holdsIt 22 = .ok (.aload_n 0, 1) := by decide +kernel
theorem dX7_holdsIt_23 : decode cX7_holdsIt 23 = .ok (.getfield 313, 3) := by decide +kernel
theorem dX7_holdsIt_26 : decode cX7_holdsIt 26 = .ok (.iconst 2, 1) := by decide +kernel
theorem dX7_holdsIt_27 : decode cX7_holdsIt 27 = .ok (.if_icmp .eq 11, 3) := by decide +kernel
theorem dX7_holdsIt_30 : decode cX7_holdsIt 30 = .ok (.aload_n 0, 1) := by decide +kernel
theorem dX7_holdsIt_31 : decode cX7_holdsIt 31 = .ok (.getfield 313, 3) := by decide +kernel
theorem dX7_holdsIt_34 : decode cX7_holdsIt 34 = .ok (.iconst 5, 1) := by decide +kernel
theorem dX7_holdsIt_35 : decode cX7_holdsIt 35 = .ok (.if_icmp .ne 26, 3) := by decide +kernel
theorem dX7_holdsIt_38 : decode cX7_holdsIt 38 = .ok (.aload_n 0, 1) := by decide +kernel
theorem dX7_holdsIt_39 : decode cX7_holdsIt 39 = .ok (.bipush 41, 2) := by decide +kernel
theorem dX7_holdsIt_41 : decode cX7_holdsIt 41 = .ok (.invokevirtual 307, 3) := by decide +kernel
theorem dX7_holdsIt_44 : decode cX7_holdsIt 44 = .ok (.aload_n 0, 1) := by decide +kernel
theorem dX7_holdsIt_45 : decode cX7_holdsIt 45 = .ok (.iload_n 1, 1) := by decide +kernel
theorem dX7_holdsIt_46 : decode cX7_holdsIt 46 = .ok (.invokevirtual 328, 3) := by decide +kernel
theorem dX7_holdsIt_49 : decode cX7_holdsIt 49 = .ok (.istore_n 2, 1) := by decide +kernel
theorem dX7_holdsIt_50 : decode cX7_holdsIt 50 = .ok (.iload_n 2, 1) := by decide +kernel
theorem dX7_holdsIt_51 : decode cX7_holdsIt 51 = .ok (.aload_n 0, 1) := by decide +kernel
theorem dX7_holdsIt_52 : decode cX7_holdsIt 52 = .ok (.aload_n 0, 1) := by decide +kernel
theorem dX7_holdsIt_53 : decode cX7_holdsIt 53 = .ok (.getfield 310, 3) := by decide +kernel
theorem dX7_holdsIt_56 : decode cX7_holdsIt 56 = .ok (.invokevirtual 319, 3) := by decide +kernel
theorem dX7_holdsIt_59 : decode cX7_holdsIt 59 = .ok (.iadd, 1) := by decide +kernel
theorem dX7_holdsIt_60 : decode cX7_holdsIt 60 = .ok (.ireturn, 1) := by decide +kernel
theorem dX7_holdsIt_61 : decode cX7_holdsIt 61 = .ok (.aload_n 0, 1) := by decide +kernel
theorem dX7_holdsIt_62 : decode cX7_holdsIt 62 = .ok (.iload_n 1, 1) := by decide +kernel
theorem dX7_holdsIt_63 : decode cX7_holdsIt 63 = .ok (.invokevirtual 322, 3) := by decide +kernel
theorem dX7_holdsIt_66 : decode cX7_holdsIt 66 = .ok (.ireturn, 1) := by decide +kernel
theorem dX7_plainShares_0 : decode cX7_plainShares 0 = .ok (.aload_n 0, 1) := by decide +kernel
theorem dX7_plainShares_1 : decode cX7_plainShares 1 = .ok (.bipush 12, 2) := by decide +kernel
theorem dX7_plainShares_3 : decode cX7_plainShares 3 = .ok (.invokevirtual 307, 3) := by decide +kernel
theorem dX7_plainShares_6 : decode cX7_plainShares 6 = .ok (.aload_n 0, 1) := by decide +kernel
theorem dX7_plainShares_7 : decode cX7_plainShares 7 = .ok (.getfield 325, 3) := by decide +kernel
theorem dX7_plainShares_10 : decode cX7_plainShares 10 = .ok (.aload_n 0, 1) := by decide +kernel
theorem dX7_plainShares_11 : decode cX7_plainShares 11 = .ok (.getfield 310, 3) := by decide +kernel
theorem dX7_plainShares_14 : decode cX7_plainShares 14 = .ok (.if_icmp .ne 10, 3) := by decide +kernel
theorem dX7_plainShares_17 : decode cX7_plainShares 17 = .ok (.aload_n 0, 1) := by decide +kernel
theorem dX7_plainShares_18 : decode cX7_plainShares 18 = .ok (.iconst 1, 1) := by decide +kernel
theorem dX7_plainShares_19 : decode cX7_plainShares 19 = .ok (.putfield 331, 3) := by decide +kernel
theorem dX7_plainShares_22 : decode cX7_plainShares 22 = .ok (.iconst 0, 1) := by decide +kernel
theorem dX7_plainShares_23 : decode cX7_plainShares 23 = .ok (.ireturn, 1) := by decide +kernel
theorem dX7_plainShares_24 : decode cX7_plainShares 24 = .ok (.iload_n 1, 1) := by decide +kernel
theorem dX7_plainShares_25 : decode cX7_plainShares 25 = .ok (.aload_n 0, 1) := by decide +kernel
theorem dX7_plainShares_26 : decode cX7_plainShares 26 = .ok (.getfield 325, 3) := by decide +kernel
theorem dX7_plainShares_29 : decode cX7_plainShares 29 = .ok (.aload_n 0, 1) := by decide +kernel
theorem dX7_plainShares_30 : decode cX7_plainShares 30 = .ok (.getfield 310, 3) := by decide +kernel
theorem dX7_plainShares_33 : decode cX7_plainShares 33 = .ok (.isub, 1) := by decide +kernel
theorem dX7_plainShares_34 : decode cX7_plainShares 34 = .ok (.idiv, 1) := by decide +kernel
theorem dX7_plainShares_35 : decode cX7_plainShares 35 = .ok (.ireturn, 1) := by decide +kernel
theorem dX7_sharesIt_0 : decode cX7_sharesIt 0 = .ok (.aload_n 0, 1) := by decide +kernel
theorem dX7_sharesIt_1 : decode cX7_sharesIt 1 = .ok (.getfield 313, 3) := by decide +kernel
theorem dX7_sharesIt_4 : decode cX7_sharesIt 4 = .ok (.iconst 4, 1) := by decide +kernel
theorem dX7_sharesIt_5 : decode cX7_sharesIt 5 = .ok (.if_icmp .ne 19, 3) := by decide +kernel
theorem dX7_sharesIt_8 : decode cX7_sharesIt 8 = .ok (.aload_n 0, 1) := by decide +kernel
theorem dX7_sharesIt_9 : decode cX7_sharesIt 9 = .ok (.bipush 50, 2) := by decide +kernel
theorem dX7_sharesIt_11 : decode cX7_sharesIt 11 = .ok (.invokevirtual 307, 3) := by decide +kernel
theorem dX7_sharesIt_14 : decode cX7_sharesIt 14 = .ok (.aload_n 0, 1) := by decide +kernel
theorem dX7_sharesIt_15 : decode cX7_sharesIt 15 = .ok (.iload_n 1, 1) := by decide +kernel
theorem dX7_sharesIt_16 : decode cX7_sharesIt 16 = .ok (.iconst 2, 1) := by decide +kernel
theorem dX7_sharesIt_17 : decode cX7_sharesIt 17 = .ok (.iadd, 1) := by decide +kernel
theorem dX7_sharesIt_18 : decode cX7_sharesIt 18 = .ok (.invokevirtual 334, 3) := by decide +kernel
theorem dX7_sharesIt_21 : decode cX7_sharesIt 21 = .ok (.iconst 1, 1) := by decide +kernel
theorem dX7_sharesIt_22 : decode cX7_sharesIt 22 = .ok (.ixor, 1) := by decide +kernel
theorem dX7_sharesIt_23 : decode cX7_sharesIt 23 = .ok (.ireturn, 1) := by decide +kernel
theorem dX7_sharesIt_24 : decode cX7_sharesIt 24 = .ok (.aload_n 0, 1) := by decide +kernel
theorem dX7_sharesIt_25 : decode cX7_sharesIt 25 = .ok (.getfield 313, 3) := by decide +kernel
theorem dX7_sharesIt_28 : decode cX7_sharesIt 28 = .ok (.iconst 5, 1) := by decide +kernel
theorem dX7_sharesIt_29 : decode cX7_sharesIt 29 = .ok (.if_icmp .ne 37, 3) := by decide +kernel
theorem dX7_sharesIt_32 : decode cX7_sharesIt 32 = .ok (.aload_n 0, 1) := by decide +kernel
theorem dX7_sharesIt_33 : decode cX7_sharesIt 33 = .ok (.bipush 61, 2) := by decide +kernel
theorem dX7_sharesIt_35 : decode cX7_sharesIt 35 = .ok (.invokevirtual 307, 3) := by decide +kernel
theorem dX7_sharesIt_38 : decode cX7_sharesIt 38 = .ok (.aload_n 0, 1) := by decide +kernel
theorem dX7_sharesIt_39 : decode cX7_sharesIt 39 = .ok (.iload_n 1, 1) := by decide +kernel
theorem dX7_sharesIt_40 : decode cX7_sharesIt 40 = .ok (.invokevirtual 334, 3) := by decide +kernel
theorem dX7_sharesIt_43 : decode cX7_sharesIt 43 = .ok (.istore_n 2, 1) := by decide +kernel
theorem dX7_sharesIt_44 : decode cX7_sharesIt 44 = .ok (.aload_n 0, 1) := by decide +kernel
theorem dX7_sharesIt_45 : decode cX7_sharesIt 45 = .ok (.getfield 331, 3) := by decide +kernel
theorem dX7_sharesIt_48 : decode cX7_sharesIt 48 = .ok (.ifCond .eq 7, 3) := by decide +kernel
theorem dX7_sharesIt_51 : decode cX7_sharesIt 51 = .ok (.iconst 0, 1) := by decide +kernel
theorem dX7_sharesIt_52 : decode cX7_sharesIt 52 = .ok (.goto 13, 3) := by decide +kernel
theorem dX7_sharesIt_55 : decode cX7_sharesIt 55 = .ok (.iload_n 2, 1) := by decide +kernel
theorem dX7_sharesIt_56 : decode cX7_sharesIt 56 = .ok (.aload_n 0, 1) := by decide +kernel
theorem dX7_sharesIt_57 : decode cX7_sharesIt 57 = .ok (.aload_n 0, 1) := by decide +kernel
theorem dX7_sharesIt_58 : decode cX7_sharesIt 58 = .ok (.getfield 325, 3) := by decide +kernel
theorem dX7_sharesIt_61 : decode cX7_sharesIt 61 = .ok (.invokevirtual 319, 3) := by decide +kernel
theorem dX7_sharesIt_64 : decode cX7_sharesIt 64 = .ok (.iadd, 1) := by decide +kernel
theorem dX7_sharesIt_65 : decode cX7_sharesIt 65 = .ok (.ireturn, 1) := by decide +kernel
theorem dX7_sharesIt_66 : decode cX7_sharesIt 66 = .ok (.aload_n 0, 1) := by decide +kernel
theorem dX7_sharesIt_67 : decode cX7_sharesIt 67 = .ok (.iload_n 1, 1) := by decide +kernel
theorem dX7_sharesIt_68 : decode cX7_sharesIt 68 = .ok (.invokevirtual 334, 3) := by decide +kernel
theorem dX7_sharesIt_71 : decode cX7_sharesIt 71 = .ok (.ireturn, 1) := by decide +kernel
theorem dX7_plainTells_0 : decode cX7_plainTells 0 = .ok (.aload_n 0, 1) := by decide +kernel
theorem dX7_plainTells_1 : decode cX7_plainTells 1 = .ok (.bipush 13, 2) := by decide +kernel
theorem dX7_plainTells_3 : decode cX7_plainTells 3 = .ok (.invokevirtual 307, 3) := by decide +kernel
theorem dX7_plainTells_6 : decode cX7_plainTells 6 = .ok (.aload_n 0, 1) := by decide +kernel
theorem dX7_plainTells_7 : decode cX7_plainTells 7 = .ok (.iload_n 1, 1) := by decide +kernel
theorem dX7_plainTells_8 : decode cX7_plainTells 8 = .ok (.invokevirtual 337, 3) := by decide +kernel
theorem dX7_plainTells_11 : decode cX7_plainTells 11 = .ok (.aload_n 0, 1) := by decide +kernel
theorem dX7_plainTells_12 : decode cX7_plainTells 12 = .ok (.getfield 325, 3) := by decide +kernel
theorem dX7_plainTells_15 : decode cX7_plainTells 15 = .ok (.ixor, 1) := by decide +kernel
theorem dX7_plainTells_16 : decode cX7_plainTells 16 = .ok (.ireturn, 1) := by decide +kernel
theorem dX7_tellsIt_0 : decode cX7_tellsIt 0 = .ok (.aload_n 0, 1) := by decide +kernel
theorem dX7_tellsIt_1 : decode cX7_tellsIt 1 = .ok (.getfield 313, 3) := by decide +kernel
theorem dX7_tellsIt_4 : decode cX7_tellsIt 4 = .ok (.iconst 3, 1) := by decide +kernel
theorem dX7_tellsIt_5 : decode cX7_tellsIt 5 = .ok (.if_icmp .ne 26, 3) := by decide +kernel
theorem dX7_tellsIt_8 : decode cX7_tellsIt 8 = .ok (.aload_n 0, 1) := by decide +kernel
theorem dX7_tellsIt_9 : decode cX7_tellsIt 9 = .ok (.bipush 31, 2) := by decide +kernel
theorem dX7_tellsIt_11 : decode cX7_tellsIt 11 = .ok (.invokevirtual 307, 3) := by decide +kernel
theorem dX7_tellsIt_14 : decode cX7_tellsIt 14 = .ok (.aload_n 0, 1) := by decide +kernel
theorem dX7_tellsIt_15 : decode cX7_tellsIt 15 = .ok (.iload_n 1, 1) := by decide +kernel
theorem dX7_tellsIt_16 : decode cX7_tellsIt 16 = .ok (.invokevirtual 340, 3) := by decide +kernel
theorem dX7_tellsIt_19 : decode cX7_tellsIt 19 = .ok (.istore_n 2, 1) := by decide +kernel
theorem dX7_tellsIt_20 : decode cX7_tellsIt 20 = .ok (.iload_n 2, 1) := by decide +kernel
theorem dX7_tellsIt_21 : decode cX7_tellsIt 21 = .ok (.aload_n 0, 1) := by decide +kernel
theorem dX7_tellsIt_22 : decode cX7_tellsIt 22 = .ok (.aload_n 0, 1) := by decide +kernel
theorem dX7_tellsIt_23 : decode cX7_tellsIt 23 = .ok (.getfield 310, 3) := by decide +kernel
theorem dX7_tellsIt_26 : decode cX7_tellsIt 26 = .ok (.invokevirtual 343, 3) := by decide +kernel
theorem dX7_tellsIt_29 : decode cX7_tellsIt 29 = .ok (.iadd, 1) := by decide +kernel
theorem dX7_tellsIt_30 : decode cX7_tellsIt 30 = .ok (.ireturn, 1) := by decide +kernel
theorem dX7_tellsIt_31 : decode cX7_tellsIt 31 = .ok (.aload_n 0, 1) := by decide +kernel
theorem dX7_tellsIt_32 : decode cX7_tellsIt 32 = .ok (.getfield 313, 3) := by decide +kernel
theorem dX7_tellsIt_35 : decode cX7_tellsIt 35 = .ok (.iconst 5, 1) := by decide +kernel
theorem dX7_tellsIt_36 : decode cX7_tellsIt 36 = .ok (.if_icmp .ne 17, 3) := by decide +kernel
theorem dX7_tellsIt_39 : decode cX7_tellsIt 39 = .ok (.aload_n 0, 1) := by decide +kernel
theorem dX7_tellsIt_40 : decode cX7_tellsIt 40 = .ok (.bipush 60, 2) := by decide +kernel
theorem dX7_tellsIt_42 : decode cX7_tellsIt 42 = .ok (.invokevirtual 307, 3) := by decide +kernel
theorem dX7_tellsIt_45 : decode cX7_tellsIt 45 = .ok (.aload_n 0, 1) := by decide +kernel
theorem dX7_tellsIt_46 : decode cX7_tellsIt 46 = .ok (.iload_n 1, 1) := by decide +kernel
theorem dX7_tellsIt_47 : decode cX7_tellsIt 47 = .ok (.invokevirtual 340, 3) := by decide +kernel
theorem dX7_tellsIt_50 : decode cX7_tellsIt 50 = .ok (.iconst 2, 1) := by decide +kernel
theorem dX7_tellsIt_51 : decode cX7_tellsIt 51 = .ok (.imul, 1) := by decide +kernel
theorem dX7_tellsIt_52 : decode cX7_tellsIt 52 = .ok (.ireturn, 1) := by decide +kernel
theorem dX7_tellsIt_53 : decode cX7_tellsIt 53 = .ok (.aload_n 0, 1) := by decide +kernel
theorem dX7_tellsIt_54 : decode cX7_tellsIt 54 = .ok (.iload_n 1, 1) := by decide +kernel
theorem dX7_tellsIt_55 : decode cX7_tellsIt 55 = .ok (.invokevirtual 340, 3) := by decide +kernel
theorem dX7_tellsIt_58 : decode cX7_tellsIt 58 = .ok (.ireturn, 1) := by decide +kernel
theorem dX7_act_0 : decode cX7_act 0 = .ok (.aload_n 0, 1) := by decide +kernel
theorem dX7_act_1 : decode cX7_act 1 = .ok (.iconst 0, 1) := by decide +kernel
theorem dX7_act_2 : decode cX7_act 2 = .ok (.putfield 304, 3) := by decide +kernel
theorem dX7_act_5 : decode cX7_act 5 = .ok (.iload_n 1, 1) := by decide +kernel
theorem dX7_act_6 : decode cX7_act 6 = .ok (.invokestatic 287, 3) := by decide +kernel
theorem dX7_act_9 : decode cX7_act 9 = .ok (.ifCond .eq 11, 3) := by decide +kernel
theorem dX7_act_12 : decode cX7_act 12 = .ok (.aload_n 0, 1) := by decide +kernel
theorem dX7_act_13 : decode cX7_act 13 = .ok (.iload_n 1, 1) := by decide +kernel
theorem dX7_act_14 : decode cX7_act 14 = .ok (.invokevirtual 298, 3) := by decide +kernel
theorem dX7_act_17 : decode cX7_act 17 = .ok (.goto 4, 3) := by decide +kernel
theorem dX7_act_20 : decode cX7_act 20 = .ok (.iconst (-1), 1) := by decide +kernel
theorem dX7_act_21 : decode cX7_act 21 = .ok (.istore 4, 2) := by decide +kernel
theorem dX7_act_23 : decode cX7_act 23 = .ok (.iload_n 2, 1) := by decide +kernel
theorem dX7_act_24 : decode cX7_act 24 = .ok (.iconst 0, 1) := by decide +kernel
theorem dX7_act_25 : decode cX7_act 25 = .ok (.iconst 3, 1) := by decide +kernel
theorem dX7_act_26 : decode cX7_act 26 = .ok (.invokestatic 81, 3) := by decide +kernel
theorem dX7_act_29 : decode cX7_act 29 = .ok (.ifCond .eq 13, 3) := by decide +kernel
theorem dX7_act_32 : decode cX7_act 32 = .ok (.iload 4, 2) := by decide +kernel
theorem dX7_act_34 : decode cX7_act 34 = .ok (.iconst 0, 1) := by decide +kernel
theorem dX7_act_35 : decode cX7_act 35 = .ok (.iconst 5, 1) := by decide +kernel
theorem dX7_act_36 : decode cX7_act 36 = .ok (.invokestatic 81, 3) := by decide +kernel
theorem dX7_act_39 : decode cX7_act 39 = .ok (.ifCond .ne 5, 3) := by decide +kernel
theorem dX7_act_42 : decode cX7_act 42 = .ok (.iconst 0, 1) := by decide +kernel
theorem dX7_act_43 : decode cX7_act 43 = .ok (.ireturn, 1) := by decide +kernel
theorem dX7_act_44 : decode cX7_act 44 = .ok (.aload_n 0, 1) := by decide +kernel
theorem dX7_act_45 : decode cX7_act 45 = .ok (.iload 4, 2) := by decide +kernel
theorem dX7_act_47 : decode cX7_act 47 = .ok (.putfield 313, 3) := by decide +kernel
theorem dX7_act_50 : decode cX7_act 50 = .ok (.aload_n 0, 1) := by decide +kernel
theorem dX7_act_51 : decode cX7_act 51 = .ok (.aload_n 0, 1) := by decide +kernel
theorem dX7_act_52 : decode cX7_act 52 = .ok (.getfield 66, 3) := by decide +kernel
theorem dX7_act_55 : decode cX7_act 55 = .ok (.iload_n 1, 1) := by decide +kernel
theorem dX7_act_56 : decode cX7_act 56 = .ok (.iaload, 1) := by decide +kernel
theorem dX7_act_57 : decode cX7_act 57 = .ok (.putfield 310, 3) := by decide +kernel
theorem dX7_act_60 : decode cX7_act 60 = .ok (.aload_n 0, 1) := by decide +kernel
theorem dX7_act_61 : decode cX7_act 61 = .ok (.aload_n 0, 1) := by decide +kernel
theorem dX7_act_62 : decode cX7_act 62 = .ok (.aload_n 0, 1) := by decide +kernel
theorem dX7_act_63 : decode cX7_act 63 = .ok (.getfield 310, 3) := by decide +kernel
theorem dX7_act_66 : decode cX7_act 66 = .ok (.iconst 1, 1) := by decide +kernel
theorem dX7_act_67 : decode cX7_act 67 = .ok (.invokevirtual 213, 3) := by decide +kernel
theorem dX7_act_70 : decode cX7_act 70 = .ok (.putfield 325, 3) := by decide +kernel
theorem dX7_act_73 : decode cX7_act 73 = .ok (.aload_n 0, 1) := by decide +kernel
theorem dX7_act_74 : decode cX7_act 74 = .ok (.iconst 0, 1) := by decide +kernel
theorem dX7_act_75 : decode cX7_act 75 = .ok (.putfield 331, 3) := by decide +kernel
theorem dX7_act_78 : decode cX7_act 78 = .ok (.iload_n 2, 1) := by decide +kernel
theorem dX7_act_79 : decode cX7_act 79 = .ok (.ifCond .ne 11, 3) := by decide +kernel
theorem dX7_act_82 : decode cX7_act 82 = .ok (.aload_n 0, 1) := by decide +kernel
theorem dX7_act_83 : decode cX7_act 83 = .ok (.iload_n 3, 1) := by decide +kernel
theorem dX7_act_84 : decode cX7_act 84 = .ok (.invokevirtual 319, 3) := by decide +kernel
theorem dX7_act_87 : decode cX7_act 87 = .ok (.goto 34, 3) := by decide +kernel
theorem dX7_act_90 : decode cX7_act 90 = .ok (.iload_n 2, 1) := by decide +kernel
theorem dX7_act_91 : decode cX7_act 91 = .ok (.iconst 1, 1) := by decide +kernel
theorem dX7_act_92 : decode cX7_act 92 = .ok (.if_icmp .ne 11, 3) := by decide +kernel
theorem dX7_act_95 : decode cX7_act 95 = .ok (.aload_n 0, 1) := by decide +kernel
theorem dX7_act_96 : decode cX7_act 96 = .ok (.iload_n 3, 1) := by decide +kernel
theorem dX7_act_97 : decode cX7_act 97 = .ok (.invokevirtual 337, 3) := by decide +kernel
theorem dX7_act_100 : decode cX7_act 100 = .ok (.goto 21, 3) := by decide +kernel
theorem dX7_act_103 : decode cX7_act 103 = .ok (.iload_n 2, 1) := by decide +kernel
theorem dX7_act_104 : decode cX7_act 104 = .ok (.iconst 2, 1) := by decide +kernel
theorem dX7_act_105 : decode cX7_act 105 = .ok (.if_icmp .ne 11, 3) := by decide +kernel
theorem dX7_act_108 : decode cX7_act 108 = .ok (.aload_n 0, 1) := by decide +kernel
theorem dX7_act_109 : decode cX7_act 109 = .ok (.iload_n 3, 1) := by decide +kernel
theorem dX7_act_110 : decode cX7_act 110 = .ok (.invokevirtual 343, 3) := by decide +kernel
theorem dX7_act_113 : decode cX7_act 113 = .ok (.goto 8, 3) := by decide +kernel
theorem dX7_act_116 : decode cX7_act 116 = .ok (.aload_n 0, 1) := by decide +kernel
theorem dX7_act_117 : decode cX7_act 117 = .ok (.iload_n 3, 1) := by decide +kernel
theorem dX7_act_118 : decode cX7_act 118 = .ok (.invokevirtual 346, 3) := by decide +kernel
theorem dX7_act_121 : decode cX7_act 121 = .ok (.istore 5, 2) := by decide +kernel
theorem dX7_act_123 : decode cX7_act 123 = .ok (.aload_n 0, 1) := by decide +kernel
theorem dX7_act_124 : decode cX7_act 124 = .ok (.getfield 331, 3) := by decide +kernel
theorem dX7_act_127 : decode cX7_act 127 = .ok (.ifCond .eq 8, 3) := by decide +kernel
theorem dX7_act_130 : decode cX7_act 130 = .ok (.bipush (-15), 2) := by decide +kernel
theorem dX7_act_132 : decode cX7_act 132 = .ok (.goto 5, 3) := by decide +kernel
theorem dX7_act_135 : decode cX7_act 135 = .ok (.iload 5, 2) := by decide +kernel
theorem dX7_act_137 : decode cX7_act 137 = .ok (.ireturn, 1) := by decide +kernel
theorem dX7_trace_0 : decode cX7_trace 0 = .ok (.iload_n 1, 1) := by decide +kernel
theorem dX7_trace_1 : decode cX7_trace 1 = .ok (.iconst 0, 1) := by decide +kernel
theorem dX7_trace_2 : decode cX7_trace 2 = .ok (.aload_n 0, 1) := by decide +kernel
theorem dX7_trace_3 : decode cX7_trace 3 = .ok (.getfield 304, 3) := by decide +kernel
theorem dX7_trace_6 : decode cX7_trace 6 = .ok (.iconst 1, 1) := by decide +kernel
theorem dX7_trace_7 : decode cX7_trace 7 = .ok (.isub, 1) := by decide +kernel
theorem dX7_trace_8 : decode cX7_trace 8 = .ok (.invokestatic 81, 3) := by decide +kernel
theorem dX7_trace_11 : decode cX7_trace 11 = .ok (.ifCond .eq 12, 3) := by decide +kernel
theorem dX7_trace_14 : decode cX7_trace 14 = .ok (.aload_n 0, 1) := by decide +kernel
theorem dX7_trace_15 : decode cX7_trace 15 = .ok (.getfield 72, 3) := by decide +kernel
theorem dX7_trace_18 : decode cX7_trace 18 = .ok (.iload_n 1, 1) := by decide +kernel
theorem dX7_trace_19 : decode cX7_trace 19 = .ok (.iaload, 1) := by decide +kernel
theorem dX7_trace_20 : decode cX7_trace 20 = .ok (.goto 5, 3) := by decide +kernel
theorem dX7_trace_23 : decode cX7_trace 23 = .ok (.bipush (-3), 2) := by decide +kernel
theorem dX7_trace_25 : decode cX7_trace 25 = .ok (.ireturn, 1) := by decide +kernel
theorem dX7_many_0 : decode cX7_many 0 = .ok (.iload_n 1, 1) := by decide +kernel
theorem dX7_many_1 : decode cX7_many 1 = .ok (.tableswitch 78 0 6 #[43, 48, 53, 58, 63, 68, 73], 43) := by decide +kernel
theorem dX7_many_44 : decode cX7_many 44 = .ok (.aload_n 0, 1) := by decide +kernel
theorem dX7_many_45 : decode cX7_many 45 = .ok (.invokevirtual 193, 3) := by decide +kernel
theorem dX7_many_48 : decode cX7_many 48 = .ok (.ireturn, 1) := by decide +kernel
theorem dX7_many_49 : decode cX7_many 49 = .ok (.aload_n 0, 1) := by decide +kernel
theorem dX7_many_50 : decode cX7_many 50 = .ok (.getfield 85, 3) := by decide +kernel
theorem dX7_many_53 : decode cX7_many 53 = .ok (.ireturn, 1) := by decide +kernel
theorem dX7_many_54 : decode cX7_many 54 = .ok (.aload_n 0, 1) := by decide +kernel
theorem dX7_many_55 : decode cX7_many 55 = .ok (.getfield 19, 3) := by decide +kernel
theorem dX7_many_58 : decode cX7_many 58 = .ok (.ireturn, 1) := by decide +kernel
theorem dX7_many_59 : decode cX7_many 59 = .ok (.aload_n 0, 1) := by decide +kernel
theorem dX7_many_60 : decode cX7_many 60 = .ok (.invokevirtual 231, 3) := by decide +kernel
theorem dX7_many_63 : decode cX7_many 63 = .ok (.ireturn, 1) := by decide +kernel
theorem dX7_many_64 : decode cX7_many 64 = .ok (.aload_n 0, 1) := by decide +kernel
theorem dX7_many_65 : decode cX7_many 65 = .ok (.getfield 190, 3) := by decide +kernel
theorem dX7_many_68 : decode cX7_many 68 = .ok (.ireturn, 1) := by decide +kernel
theorem dX7_many_69 : decode cX7_many 69 = .ok (.aload_n 0, 1) := by decide +kernel
theorem dX7_many_70 : decode cX7_many 70 = .ok (.getfield 88, 3) := by decide +kernel
theorem dX7_many_73 : decode cX7_many 73 = .ok (.ireturn, 1) := by decide +kernel
theorem dX7_many_74 : decode cX7_many 74 = .ok (.aload_n 0, 1) := by decide +kernel
theorem dX7_many_75 : decode cX7_many 75 = .ok (.getfield 304, 3) := by decide +kernel
theorem dX7_many_78 : decode cX7_many 78 = .ok (.ireturn, 1) := by decide +kernel
theorem dX7_many_79 : decode cX7_many 79 = .ok (.iconst (-1), 1) := by decide +kernel
theorem dX7_many_80 : decode cX7_many 80 = .ok (.ireturn, 1) := by decide +kernel
theorem dX7_moveRow_0 : decode cX7_moveRow 0 = .ok (.iconst 0, 1) := by decide +kernel
theorem dX7_moveRow_1 : decode cX7_moveRow 1 = .ok (.istore 4, 2) := by decide +kernel
theorem dX7_moveRow_3 : decode cX7_moveRow 3 = .ok (.iload 4, 2) := by decide +kernel
theorem dX7_moveRow_5 : decode cX7_moveRow 5 = .ok (.iload_n 2, 1) := by decide +kernel
theorem dX7_moveRow_6 : decode cX7_moveRow 6 = .ok (.if_icmp .ge 52, 3) := by decide +kernel
theorem dX7_moveRow_9 : decode cX7_moveRow 9 = .ok (.iload_n 3, 1) := by decide +kernel
theorem dX7_moveRow_10 : decode cX7_moveRow 10 = .ok (.ifCond .eq 19, 3) := by decide +kernel
theorem dX7_moveRow_13 : decode cX7_moveRow 13 = .ok (.aload_n 0, 1) := by decide +kernel
theorem dX7_moveRow_14 : decode cX7_moveRow 14 = .ok (.getfield 75, 3) := by decide +kernel
theorem dX7_moveRow_17 : decode cX7_moveRow 17 = .ok (.aload_n 0, 1) := by decide +kernel
theorem dX7_moveRow_18 : decode cX7_moveRow 18 = .ok (.getfield 349, 3) := by decide +kernel
theorem dX7_moveRow_21 : decode cX7_moveRow 21 = .ok (.aload_n 1, 1) := by decide +kernel
theorem dX7_moveRow_22 : decode cX7_moveRow 22 = .ok (.iload 4, 2) := by decide +kernel
theorem dX7_moveRow_24 : decode cX7_moveRow 24 = .ok (.iaload, 1) := by decide +kernel
theorem dX7_moveRow_25 : decode cX7_moveRow 25 = .ok (.iastore, 1) := by decide +kernel
theorem dX7_moveRow_26 : decode cX7_moveRow 26 = .ok (.goto 16, 3) := by decide +kernel
theorem dX7_moveRow_29 : decode cX7_moveRow 29 = .ok (.aload_n 1, 1) := by decide +kernel
theorem dX7_moveRow_30 : decode cX7_moveRow 30 = .ok (.iload 4, 2) := by decide +kernel
theorem dX7_moveRow_32 : decode cX7_moveRow 32 = .ok (.aload_n 0, 1) := by decide +kernel
theorem dX7_moveRow_33 : decode cX7_moveRow 33 = .ok (.getfield 75, 3) := by decide +kernel
theorem dX7_moveRow_36 : decode cX7_moveRow 36 = .ok (.aload_n 0, 1) := by decide +kernel
theorem dX7_moveRow_37 : decode cX7_moveRow 37 = .ok (.getfield 349, 3) := by decide +kernel
theorem dX7_moveRow_40 : decode cX7_moveRow 40 = .ok (.iaload, 1) := by decide +kernel
theorem dX7_moveRow_41 : decode cX7_moveRow 41 = .ok (.iastore, 1) := by decide +kernel
theorem dX7_moveRow_42 : decode cX7_moveRow 42 = .ok (.aload_n 0, 1) := by decide +kernel
theorem dX7_moveRow_43 : decode cX7_moveRow 43 = .ok (.dup, 1) := by decide +kernel
theorem dX7_moveRow_44 : decode cX7_moveRow 44 = .ok (.getfield 349, 3) := by decide +kernel
theorem dX7_moveRow_47 : decode cX7_moveRow 47 = .ok (.iconst 1, 1) := by decide +kernel
theorem dX7_moveRow_48 : decode cX7_moveRow 48 = .ok (.iadd, 1) := by decide +kernel
theorem dX7_moveRow_49 : decode cX7_moveRow 49 = .ok (.putfield 349, 3) := by decide +kernel
theorem dX7_moveRow_52 : decode cX7_moveRow 52 = .ok (.iinc 4 1, 3) := by decide +kernel
theorem dX7_moveRow_55 : decode cX7_moveRow 55 = .ok (.goto (-52), 3) := by decide +kernel
theorem dX7_moveRow_58 : decode cX7_moveRow 58 = .ok (.return_, 1) := by decide +kernel
theorem dX7_moveAll_0 : decode cX7_moveAll 0 = .ok (.aload_n 0, 1) := by decide +kernel
theorem dX7_moveAll_1 : decode cX7_moveAll 1 = .ok (.iconst 0, 1) := by decide +kernel
theorem dX7_moveAll_2 : decode cX7_moveAll 2 = .ok (.putfield 349, 3) := by decide +kernel
theorem dX7_moveAll_5 : decode cX7_moveAll 5 = .ok (.aload_n 0, 1) := by decide +kernel
theorem dX7_moveAll_6 : decode cX7_moveAll 6 = .ok (.getfield 78, 3) := by decide +kernel
theorem dX7_moveAll_9 : decode cX7_moveAll 9 = .ok (.iconst 0, 1) := by decide +kernel
theorem dX7_moveAll_10 : decode cX7_moveAll 10 = .ok (.aload_n 0, 1) := by decide +kernel
theorem dX7_moveAll_11 : decode cX7_moveAll 11 = .ok (.getfield 19, 3) := by decide +kernel
theorem dX7_moveAll_14 : decode cX7_moveAll 14 = .ok (.iastore, 1) := by decide +kernel
theorem dX7_moveAll_15 : decode cX7_moveAll 15 = .ok (.aload_n 0, 1) := by decide +kernel
theorem dX7_moveAll_16 : decode cX7_moveAll 16 = .ok (.getfield 78, 3) := by decide +kernel
theorem dX7_moveAll_19 : decode cX7_moveAll 19 = .ok (.iconst 1, 1) := by decide +kernel
theorem dX7_moveAll_20 : decode cX7_moveAll 20 = .ok (.aload_n 0, 1) := by decide +kernel
theorem dX7_moveAll_21 : decode cX7_moveAll 21 = .ok (.getfield 85, 3) := by decide +kernel
theorem dX7_moveAll_24 : decode cX7_moveAll 24 = .ok (.iastore, 1) := by decide +kernel
theorem dX7_moveAll_25 : decode cX7_moveAll 25 = .ok (.aload_n 0, 1) := by decide +kernel
theorem dX7_moveAll_26 : decode cX7_moveAll 26 = .ok (.getfield 78, 3) := by decide +kernel
theorem dX7_moveAll_29 : decode cX7_moveAll 29 = .ok (.iconst 2, 1) := by decide +kernel
theorem dX7_moveAll_30 : decode cX7_moveAll 30 = .ok (.aload_n 0, 1) := by decide +kernel
theorem dX7_moveAll_31 : decode cX7_moveAll 31 = .ok (.getfield 26, 3) := by decide +kernel
theorem dX7_moveAll_34 : decode cX7_moveAll 34 = .ok (.iastore, 1) := by decide +kernel
theorem dX7_moveAll_35 : decode cX7_moveAll 35 = .ok (.aload_n 0, 1) := by decide +kernel
theorem dX7_moveAll_36 : decode cX7_moveAll 36 = .ok (.aload_n 0, 1) := by decide +kernel
theorem dX7_moveAll_37 : decode cX7_moveAll 37 = .ok (.getfield 78, 3) := by decide +kernel
theorem dX7_moveAll_40 : decode cX7_moveAll 40 = .ok (.iconst 3, 1) := by decide +kernel
theorem dX7_moveAll_41 : decode cX7_moveAll 41 = .ok (.iload_n 1, 1) := by decide +kernel
theorem dX7_moveAll_42 : decode cX7_moveAll 42 = .ok (.invokevirtual 352, 3) := by decide +kernel
theorem dX7_moveAll_45 : decode cX7_moveAll 45 = .ok (.aload_n 0, 1) := by decide +kernel
theorem dX7_moveAll_46 : decode cX7_moveAll 46 = .ok (.aload_n 0, 1) := by decide +kernel
theorem dX7_moveAll_47 : decode cX7_moveAll 47 = .ok (.getfield 7, 3) := by decide +kernel
theorem dX7_moveAll_50 : decode cX7_moveAll 50 = .ok (.bipush 24, 2) := by decide +kernel
theorem dX7_moveAll_52 : decode cX7_moveAll 52 = .ok (.iload_n 1, 1) := by decide +kernel
theorem dX7_moveAll_53 : decode cX7_moveAll 53 = .ok (.invokevirtual 352, 3) := by decide +kernel
theorem dX7_moveAll_56 : decode cX7_moveAll 56 = .ok (.aload_n 0, 1) := by decide +kernel
theorem dX7_moveAll_57 : decode cX7_moveAll 57 = .ok (.aload_n 0, 1) := by decide +kernel
theorem dX7_moveAll_58 : decode cX7_moveAll 58 = .ok (.getfield 16, 3) := by decide +kernel
theorem dX7_moveAll_61 : decode cX7_moveAll 61 = .ok (.bipush 24, 2) := by decide +kernel
theorem dX7_moveAll_63 : decode cX7_moveAll 63 = .ok (.iload_n 1, 1) := by decide +kernel
theorem dX7_moveAll_64 : decode cX7_moveAll 64 = .ok (.invokevirtual 352, 3) := by decide +kernel
theorem dX7_moveAll_67 : decode cX7_moveAll 67 = .ok (.aload_n 0, 1) := by decide +kernel
theorem dX7_moveAll_68 : decode cX7_moveAll 68 = .ok (.aload_n 0, 1) := by decide +kernel
theorem dX7_moveAll_69 : decode cX7_moveAll 69 = .ok (.getfield 23, 3) := by decide +kernel
theorem dX7_moveAll_72 : decode cX7_moveAll 72 = .ok (.bipush 24, 2) := by decide +kernel
theorem dX7_moveAll_74 : decode cX7_moveAll 74 = .ok (.iload_n 1, 1) := by decide +kernel
theorem dX7_moveAll_75 : decode cX7_moveAll 75 = .ok (.invokevirtual 352, 3) := by decide +kernel
theorem dX7_moveAll_78 : decode cX7_moveAll 78 = .ok (.return_, 1) := by decide +kernel
theorem dX7_keep_0 : decode cX7_keep 0 = .ok (.aload_n 0, 1) := by decide +kernel
theorem dX7_keep_1 : decode cX7_keep 1 = .ok (.iconst 1, 1) := by decide +kernel
theorem dX7_keep_2 : decode cX7_keep 2 = .ok (.invokevirtual 356, 3) := by decide +kernel
theorem dX7_keep_5 : decode cX7_keep 5 = .ok (.aload_n 0, 1) := by decide +kernel
theorem dX7_keep_6 : decode cX7_keep 6 = .ok (.iconst 1, 1) := by decide +kernel
theorem dX7_keep_7 : decode cX7_keep 7 = .ok (.putfield 359, 3) := by decide +kernel
theorem dX7_keep_10 : decode cX7_keep 10 = .ok (.iconst 1, 1) := by decide +kernel
theorem dX7_keep_11 : decode cX7_keep 11 = .ok (.ireturn, 1) := by decide +kernel
theorem dX7_again_0 : decode cX7_again 0 = .ok (.aload_n 0, 1) := by decide +kernel
theorem dX7_again_1 : decode cX7_again 1 = .ok (.getfield 359, 3) := by decide +kernel
theorem dX7_again_4 : decode cX7_again 4 = .ok (.ifCond .ne 6, 3) := by decide +kernel
theorem dX7_again_7 : decode cX7_again 7 = .ok (.bipush (-3), 2) := by decide +kernel
theorem dX7_again_9 : decode cX7_again 9 = .ok (.ireturn, 1) := by decide +kernel
theorem dX7_again_10 : decode cX7_again 10 = .ok (.aload_n 0, 1) := by decide +kernel
theorem dX7_again_11 : decode cX7_again 11 = .ok (.iconst 0, 1) := by decide +kernel
theorem dX7_again_12 : decode cX7_again 12 = .ok (.invokevirtual 356, 3) := by decide +kernel
theorem dX7_again_15 : decode cX7_again 15 = .ok (.aload_n 0, 1) := by decide +kernel
theorem dX7_again_16 : decode cX7_again 16 = .ok (.aload_n 0, 1) := by decide +kernel
theorem dX7_again_17 : decode cX7_again 17 = .ok (.getfield 78, 3) := by decide +kernel
theorem dX7_again_20 : decode cX7_again 20 = .ok (.iconst 0, 1) := by decide +kernel
theorem dX7_again_21 : decode cX7_again 21 = .ok (.iaload, 1) := by decide +kernel
theorem dX7_again_22 : decode cX7_again 22 = .ok (.putfield 19, 3) := by decide +kernel
theorem dX7_again_25 : decode cX7_again 25 = .ok (.aload_n 0, 1) := by decide +kernel
theorem dX7_again_26 : decode cX7_again 26 = .ok (.aload_n 0, 1) := by decide +kernel
theorem dX7_again_27 : decode cX7_again 27 = .ok (.getfield 78, 3) := by decide +kernel
theorem dX7_again_30 : decode cX7_again 30 = .ok (.iconst 1, 1) := by decide +kernel
theorem dX7_again_31 : decode cX7_again 31 = .ok (.iaload, 1) := by decide +kernel
theorem dX7_again_32 : decode cX7_again 32 = .ok (.putfield 85, 3) := by decide +kernel
theorem dX7_again_35 : decode cX7_again 35 = .ok (.aload_n 0, 1) := by decide +kernel
theorem dX7_again_36 : decode cX7_again 36 = .ok (.aload_n 0, 1) := by decide +kernel
theorem dX7_again_37 : decode cX7_again 37 = .ok (.getfield 78, 3) := by decide +kernel
theorem dX7_again_40 : decode cX7_again 40 = .ok (.iconst 2, 1) := by decide +kernel
theorem dX7_again_41 : decode cX7_again 41 = .ok (.iaload, 1) := by decide +kernel
theorem dX7_again_42 : decode cX7_again 42 = .ok (.putfield 26, 3) := by decide +kernel
theorem dX7_again_45 : decode cX7_again 45 = .ok (.aload_n 0, 1) := by decide +kernel
theorem dX7_again_46 : decode cX7_again 46 = .ok (.invokevirtual 193, 3) := by decide +kernel
theorem dX7_again_49 : decode cX7_again 49 = .ok (.ireturn, 1) := by decide +kernel
