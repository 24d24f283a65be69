theorem dX6_bestChange_92 : decode cX6_bestChange 92 = .ok (.iload 5, 2) := by decide +kernel
theorem dX6_bestChange_94 : decode cX6_bestChange 94 = .ok (.iload 6, 2) := by decide +kernel
theorem dX6_bestChange_96 : decode cX6_bestChange 96 = .ok (.invokevirtual 257, 3) := by decide +kernel
theorem dX6_bestChange_99 : decode cX6_bestChange 99 = .ok (.istore_n 3, 1) := by decide +kernel
theorem dX6_bestChange_100 : decode cX6_bestChange 100 = .ok (.iinc 6 1, 3) := by decide +kernel
theorem dX6_bestChange_103 : decode cX6_bestChange 103 = .ok (.goto (-68), 3) := by decide +kernel
theorem dX6_bestChange_106 : decode cX6_bestChange 106 = .ok (.iinc 5 1, 3) := by decide +kernel
theorem dX6_bestChange_109 : decode cX6_bestChange 109 = .ok (.goto (-89), 3) := by decide +kernel
theorem dX6_bestChange_112 : decode cX6_bestChange 112 = .ok (.iinc 4 1, 3) := by decide +kernel
theorem dX6_bestChange_115 : decode cX6_bestChange 115 = .ok (.goto (-107), 3) := by decide +kernel
theorem dX6_bestChange_118 : decode cX6_bestChange 118 = .ok (.iload_n 2, 1) := by decide +kernel
theorem dX6_bestChange_119 : decode cX6_bestChange 119 = .ok (.ireturn, 1) := by decide +kernel
theorem dX6_paysMost_0 : decode cX6_paysMost 0 = .ok (.aload_n 0, 1) := by decide +kernel
theorem dX6_paysMost_1 : decode cX6_paysMost 1 = .ok (.iconst 0, 1) := by decide +kernel
theorem dX6_paysMost_2 : decode cX6_paysMost 2 = .ok (.putfield 93, 3) := by decide +kernel
theorem dX6_paysMost_5 : decode cX6_paysMost 5 = .ok (.iload_n 1, 1) := by decide +kernel
theorem dX6_paysMost_6 : decode cX6_paysMost 6 = .ok (.i2l, 1) := by decide +kernel
theorem dX6_paysMost_7 : decode cX6_paysMost 7 = .ok (.lconst 0, 1) := by decide +kernel
theorem dX6_paysMost_8 : decode cX6_paysMost 8 = .ok (.ldc2_w 263, 3) := by decide +kernel
theorem dX6_paysMost_11 : decode cX6_paysMost 11 = .ok (.invokestatic 100, 3) := by decide +kernel
theorem dX6_paysMost_14 : decode cX6_paysMost 14 = .ok (.ifCond .eq 11, 3) := by decide +kernel
theorem dX6_paysMost_17 : decode cX6_paysMost 17 = .ok (.aload_n 0, 1) := by decide +kernel
theorem dX6_paysMost_18 : decode cX6_paysMost 18 = .ok (.iload_n 1, 1) := by decide +kernel
theorem dX6_paysMost_19 : decode cX6_paysMost 19 = .ok (.invokevirtual 265, 3) := by decide +kernel
theorem dX6_paysMost_22 : decode cX6_paysMost 22 = .ok (.goto 4, 3) := by decide +kernel
theorem dX6_paysMost_25 : decode cX6_paysMost 25 = .ok (.iconst (-1), 1) := by decide +kernel
theorem dX6_paysMost_26 : decode cX6_paysMost 26 = .ok (.ireturn, 1) := by decide +kernel
theorem dX6_rests_0 : decode cX6_rests 0 = .ok (.aload_n 0, 1) := by decide +kernel
theorem dX6_rests_1 : decode cX6_rests 1 = .ok (.iconst 0, 1) := by decide +kernel
theorem dX6_rests_2 : decode cX6_rests 2 = .ok (.putfield 93, 3) := by decide +kernel
theorem dX6_rests_5 : decode cX6_rests 5 = .ok (.iload_n 1, 1) := by decide +kernel
theorem dX6_rests_6 : decode cX6_rests 6 = .ok (.i2l, 1) := by decide +kernel
theorem dX6_rests_7 : decode cX6_rests 7 = .ok (.lconst 0, 1) := by decide +kernel
theorem dX6_rests_8 : decode cX6_rests 8 = .ok (.ldc2_w 263, 3) := by decide +kernel
theorem dX6_rests_11 : decode cX6_rests 11 = .ok (.invokestatic 100, 3) := by decide +kernel
theorem dX6_rests_14 : decode cX6_rests 14 = .ok (.ifCond .eq 13, 3) := by decide +kernel
theorem dX6_rests_17 : decode cX6_rests 17 = .ok (.iload_n 2, 1) := by decide +kernel
theorem dX6_rests_18 : decode cX6_rests 18 = .ok (.i2l, 1) := by decide +kernel
theorem dX6_rests_19 : decode cX6_rests 19 = .ok (.lconst 0, 1) := by decide +kernel
theorem dX6_rests_20 : decode cX6_rests 20 = .ok (.lconst 1, 1) := by decide +kernel
theorem dX6_rests_21 : decode cX6_rests 21 = .ok (.invokestatic 100, 3) := by decide +kernel
theorem dX6_rests_24 : decode cX6_rests 24 = .ok (.ifCond .ne 5, 3) := by decide +kernel
theorem dX6_rests_27 : decode cX6_rests 27 = .ok (.iconst (-1), 1) := by decide +kernel
theorem dX6_rests_28 : decode cX6_rests 28 = .ok (.ireturn, 1) := by decide +kernel
theorem dX6_rests_29 : decode cX6_rests 29 = .ok (.aload_n 0, 1) := by decide +kernel
theorem dX6_rests_30 : decode cX6_rests 30 = .ok (.invokevirtual 203, 3) := by decide +kernel
theorem dX6_rests_33 : decode cX6_rests 33 = .ok (.iconst 0, 1) := by decide +kernel
theorem dX6_rests_34 : decode cX6_rests 34 = .ok (.istore_n 3, 1) := by decide +kernel
theorem dX6_rests_35 : decode cX6_rests 35 = .ok (.aload_n 0, 1) := by decide +kernel
theorem dX6_rests_36 : decode cX6_rests 36 = .ok (.iload_n 1, 1) := by decide +kernel
theorem dX6_rests_37 : decode cX6_rests 37 = .ok (.invokevirtual 265, 3) := by decide +kernel
theorem dX6_rests_40 : decode cX6_rests 40 = .ok (.istore 4, 2) := by decide +kernel
theorem dX6_rests_42 : decode cX6_rests 42 = .ok (.iload 4, 2) := by decide +kernel
theorem dX6_rests_44 : decode cX6_rests 44 = .ok (.ifCond .lt 44, 3) := by decide +kernel
theorem dX6_rests_47 : decode cX6_rests 47 = .ok (.iload_n 3, 1) := by decide +kernel
theorem dX6_rests_48 : decode cX6_rests 48 = .ok (.bipush 40, 2) := by decide +kernel
theorem dX6_rests_50 : decode cX6_rests 50 = .ok (.if_icmp .ge 38, 3) := by decide +kernel
theorem dX6_rests_53 : decode cX6_rests 53 = .ok (.aload_n 0, 1) := by decide +kernel
theorem dX6_rests_54 : decode cX6_rests 54 = .ok (.iload 4, 2) := by decide +kernel
theorem dX6_rests_56 : decode cX6_rests 56 = .ok (.bipush 100, 2) := by decide +kernel
theorem dX6_rests_58 : decode cX6_rests 58 = .ok (.idiv, 1) := by decide +kernel
theorem dX6_rests_59 : decode cX6_rests 59 = .ok (.iload 4, 2) := by decide +kernel
theorem dX6_rests_61 : decode cX6_rests 61 = .ok (.bipush 10, 2) := by decide +kernel
theorem dX6_rests_63 : decode cX6_rests 63 = .ok (.idiv, 1) := by decide +kernel
theorem dX6_rests_64 : decode cX6_rests 64 = .ok (.bipush 10, 2) := by decide +kernel
theorem dX6_rests_66 : decode cX6_rests 66 = .ok (.irem, 1) := by decide +kernel
theorem dX6_rests_67 : decode cX6_rests 67 = .ok (.iload 4, 2) := by decide +kernel
theorem dX6_rests_69 : decode cX6_rests 69 = .ok (.bipush 10, 2) := by decide +kernel
theorem dX6_rests_71 : decode cX6_rests 71 = .ok (.irem, 1) := by decide +kernel
theorem dX6_rests_72 : decode cX6_rests 72 = .ok (.invokevirtual 249, 3) := by decide +kernel
theorem dX6_rests_75 : decode cX6_rests 75 = .ok (.iinc 3 1, 3) := by decide +kernel
theorem dX6_rests_78 : decode cX6_rests 78 = .ok (.aload_n 0, 1) := by decide +kernel
theorem dX6_rests_79 : decode cX6_rests 79 = .ok (.iload_n 1, 1) := by decide +kernel
theorem dX6_rests_80 : decode cX6_rests 80 = .ok (.invokevirtual 265, 3) := by decide +kernel
theorem dX6_rests_83 : decode cX6_rests 83 = .ok (.istore 4, 2) := by decide +kernel
theorem dX6_rests_85 : decode cX6_rests 85 = .ok (.goto (-43), 3) := by decide +kernel
theorem dX6_rests_88 : decode cX6_rests 88 = .ok (.iload_n 2, 1) := by decide +kernel
theorem dX6_rests_89 : decode cX6_rests 89 = .ok (.ifCond .ne 7, 3) := by decide +kernel
theorem dX6_rests_92 : decode cX6_rests 92 = .ok (.iload_n 3, 1) := by decide +kernel
theorem dX6_rests_93 : decode cX6_rests 93 = .ok (.goto 7, 3) := by decide +kernel
theorem dX6_rests_96 : decode cX6_rests 96 = .ok (.aload_n 0, 1) := by decide +kernel
theorem dX6_rests_97 : decode cX6_rests 97 = .ok (.invokevirtual 246, 3) := by decide +kernel
theorem dX6_rests_100 : decode cX6_rests 100 = .ok (.istore 5, 2) := by decide +kernel
theorem dX6_rests_102 : decode cX6_rests 102 = .ok (.aload_n 0, 1) := by decide +kernel
theorem dX6_rests_103 : decode cX6_rests 103 = .ok (.invokevirtual 209, 3) := by decide +kernel
theorem dX6_rests_106 : decode cX6_rests 106 = .ok (.iload 5, 2) := by decide +kernel
theorem dX6_rests_108 : decode cX6_rests 108 = .ok (.ireturn, 1) := by decide +kernel
theorem dX6_findLine_0 : decode cX6_findLine 0 = .ok (.aload_n 0, 1) := by decide +kernel
theorem dX6_findLine_1 : decode cX6_findLine 1 = .ok (.iconst 0, 1) := by decide +kernel
theorem dX6_findLine_2 : decode cX6_findLine 2 = .ok (.putfield 268, 3) := by decide +kernel
theorem dX6_findLine_5 : decode cX6_findLine 5 = .ok (.iconst 0, 1) := by decide +kernel
theorem dX6_findLine_6 : decode cX6_findLine 6 = .ok (.istore_n 1, 1) := by decide +kernel
theorem dX6_findLine_7 : decode cX6_findLine 7 = .ok (.iload_n 1, 1) := by decide +kernel
theorem dX6_findLine_8 : decode cX6_findLine 8 = .ok (.aload_n 0, 1) := by decide +kernel
theorem dX6_findLine_9 : decode cX6_findLine 9 = .ok (.getfield 97, 3) := by decide +kernel
theorem dX6_findLine_12 : decode cX6_findLine 12 = .ok (.if_icmp .ge 57, 3) := by decide +kernel
theorem dX6_findLine_15 : decode cX6_findLine 15 = .ok (.iconst 1, 1) := by decide +kernel
theorem dX6_findLine_16 : decode cX6_findLine 16 = .ok (.istore_n 2, 1) := by decide +kernel
theorem dX6_findLine_17 : decode cX6_findLine 17 = .ok (.iload_n 2, 1) := by decide +kernel
theorem dX6_findLine_18 : decode cX6_findLine 18 = .ok (.aload_n 0, 1) := by decide +kernel
theorem dX6_findLine_19 : decode cX6_findLine 19 = .ok (.getfield 16, 3) := by decide +kernel
theorem dX6_findLine_22 : decode cX6_findLine 22 = .ok (.iload_n 1, 1) := by decide +kernel
theorem dX6_findLine_23 : decode cX6_findLine 23 = .ok (.iaload, 1) := by decide +kernel
theorem dX6_findLine_24 : decode cX6_findLine 24 = .ok (.if_icmp .ge 39, 3) := by decide +kernel
theorem dX6_findLine_27 : decode cX6_findLine 27 = .ok (.aload_n 0, 1) := by decide +kernel
theorem dX6_findLine_28 : decode cX6_findLine 28 = .ok (.getfield 56, 3) := by decide +kernel
theorem dX6_findLine_31 : decode cX6_findLine 31 = .ok (.aload_n 0, 1) := by decide +kernel
theorem dX6_findLine_32 : decode cX6_findLine 32 = .ok (.getfield 268, 3) := by decide +kernel
theorem dX6_findLine_35 : decode cX6_findLine 35 = .ok (.aload_n 0, 1) := by decide +kernel
theorem dX6_findLine_36 : decode cX6_findLine 36 = .ok (.getfield 25, 3) := by decide +kernel
theorem dX6_findLine_39 : decode cX6_findLine 39 = .ok (.bipush 8, 2) := by decide +kernel
theorem dX6_findLine_41 : decode cX6_findLine 41 = .ok (.iload_n 1, 1) := by decide +kernel
theorem dX6_findLine_42 : decode cX6_findLine 42 = .ok (.imul, 1) := by decide +kernel
theorem dX6_findLine_43 : decode cX6_findLine 43 = .ok (.iload_n 2, 1) := by decide +kernel
theorem dX6_findLine_44 : decode cX6_findLine 44 = .ok (.iadd, 1) := by decide +kernel
theorem dX6_findLine_45 : decode cX6_findLine 45 = .ok (.iaload, 1) := by decide +kernel
theorem dX6_findLine_46 : decode cX6_findLine 46 = .ok (.iastore, 1) := by decide +kernel
theorem dX6_findLine_47 : decode cX6_findLine 47 = .ok (.aload_n 0, 1) := by decide +kernel
theorem dX6_findLine_48 : decode cX6_findLine 48 = .ok (.dup, 1) := by decide +kernel
theorem dX6_findLine_49 : decode cX6_findLine 49 = .ok (.getfield 268, 3) := by decide +kernel
theorem dX6_findLine_52 : decode cX6_findLine 52 = .ok (.iconst 1, 1) := by decide +kernel
theorem dX6_findLine_53 : decode cX6_findLine 53 = .ok (.iadd, 1) := by decide +kernel
theorem dX6_findLine_54 : decode cX6_findLine 54 = .ok (.putfield 268, 3) := by decide +kernel
theorem dX6_findLine_57 : decode cX6_findLine 57 = .ok (.iinc 2 1, 3) := by decide +kernel
theorem dX6_findLine_60 : decode cX6_findLine 60 = .ok (.goto (-43), 3) := by decide +kernel
theorem dX6_findLine_63 : decode cX6_findLine 63 = .ok (.iinc 1 1, 3) := by decide +kernel
theorem dX6_findLine_66 : decode cX6_findLine 66 = .ok (.goto (-59), 3) := by decide +kernel
theorem dX6_findLine_69 : decode cX6_findLine 69 = .ok (.return_, 1) := by decide +kernel
theorem dX6_sumOfFirst_0 : decode cX6_sumOfFirst 0 = .ok (.iconst 0, 1) := by decide +kernel
theorem dX6_sumOfFirst_1 : decode cX6_sumOfFirst 1 = .ok (.istore_n 1, 1) := by decide +kernel
theorem dX6_sumOfFirst_2 : decode cX6_sumOfFirst 2 = .ok (.iconst 0, 1) := by decide +kernel
theorem dX6_sumOfFirst_3 : decode cX6_sumOfFirst 3 = .ok (.istore_n 2, 1) := by decide +kernel
theorem dX6_sumOfFirst_4 : decode cX6_sumOfFirst 4 = .ok (.iload_n 2, 1) := by decide +kernel
theorem dX6_sumOfFirst_5 : decode cX6_sumOfFirst 5 = .ok (.aload_n 0, 1) := by decide +kernel
theorem dX6_sumOfFirst_6 : decode cX6_sumOfFirst 6 = .ok (.getfield 97, 3) := by decide +kernel
theorem dX6_sumOfFirst_9 : decode cX6_sumOfFirst 9 = .ok (.if_icmp .ge 31, 3) := by decide +kernel
theorem dX6_sumOfFirst_12 : decode cX6_sumOfFirst 12 = .ok (.iload_n 1, 1) := by decide +kernel
theorem dX6_sumOfFirst_13 : decode cX6_sumOfFirst 13 = .ok (.aload_n 0, 1) := by decide +kernel
theorem dX6_sumOfFirst_14 : decode cX6_sumOfFirst 14 = .ok (.getfield 16, 3) := by decide +kernel
theorem dX6_sumOfFirst_17 : decode cX6_sumOfFirst 17 = .ok (.iload_n 2, 1) := by decide +kernel
theorem dX6_sumOfFirst_18 : decode cX6_sumOfFirst 18 = .ok (.iaload, 1) := by decide +kernel
theorem dX6_sumOfFirst_19 : decode cX6_sumOfFirst 19 = .ok (.ifCond .le 12, 3) := by decide +kernel
theorem dX6_sumOfFirst_22 : decode cX6_sumOfFirst 22 = .ok (.aload_n 0, 1) := by decide +kernel
theorem dX6_sumOfFirst_23 : decode cX6_sumOfFirst 23 = .ok (.getfield 19, 3) := by decide +kernel
theorem dX6_sumOfFirst_26 : decode cX6_sumOfFirst 26 = .ok (.iload_n 2, 1) := by decide +kernel
theorem dX6_sumOfFirst_27 : decode cX6_sumOfFirst 27 = .ok (.iaload, 1) := by decide +kernel
theorem dX6_sumOfFirst_28 : decode cX6_sumOfFirst 28 = .ok (.goto 4, 3) := by decide +kernel
theorem dX6_sumOfFirst_31 : decode cX6_sumOfFirst 31 = .ok (.iconst 0, 1) := by decide +kernel
theorem dX6_sumOfFirst_32 : decode cX6_sumOfFirst 32 = .ok (.iadd, 1) := by decide +kernel
theorem dX6_sumOfFirst_33 : decode cX6_sumOfFirst 33 = .ok (.istore_n 1, 1) := by decide +kernel
theorem dX6_sumOfFirst_34 : decode cX6_sumOfFirst 34 = .ok (.iinc 2 1, 3) := by decide +kernel
theorem dX6_sumOfFirst_37 : decode cX6_sumOfFirst 37 = .ok (.goto (-33), 3) := by decide +kernel
theorem dX6_sumOfFirst_40 : decode cX6_sumOfFirst 40 = .ok (.iload_n 1, 1) := by decide +kernel
theorem dX6_sumOfFirst_41 : decode cX6_sumOfFirst 41 = .ok (.ireturn, 1) := by decide +kernel
theorem dX6_beginFree_0 : decode cX6_beginFree 0 = .ok (.iconst 0, 1) := by decide +kernel
theorem dX6_beginFree_1 : decode cX6_beginFree 1 = .ok (.istore_n 2, 1) := by decide +kernel
theorem dX6_beginFree_2 : decode cX6_beginFree 2 = .ok (.iload_n 2, 1) := by decide +kernel
theorem dX6_beginFree_3 : decode cX6_beginFree 3 = .ok (.iconst 5, 1) := by decide +kernel
theorem dX6_beginFree_4 : decode cX6_beginFree 4 = .ok (.if_icmp .ge 46, 3) := by decide +kernel
theorem dX6_beginFree_7 : decode cX6_beginFree 7 = .ok (.aload_n 0, 1) := by decide +kernel
theorem dX6_beginFree_8 : decode cX6_beginFree 8 = .ok (.getfield 59, 3) := by decide +kernel
theorem dX6_beginFree_11 : decode cX6_beginFree 11 = .ok (.iload_n 2, 1) := by decide +kernel
theorem dX6_beginFree_12 : decode cX6_beginFree 12 = .ok (.iload_n 1, 1) := by decide +kernel
theorem dX6_beginFree_13 : decode cX6_beginFree 13 = .ok (.ifCond .ne 29, 3) := by decide +kernel
theorem dX6_beginFree_16 : decode cX6_beginFree 16 = .ok (.iload_n 2, 1) := by decide +kernel
theorem dX6_beginFree_17 : decode cX6_beginFree 17 = .ok (.aload_n 0, 1) := by decide +kernel
theorem dX6_beginFree_18 : decode cX6_beginFree 18 = .ok (.getfield 97, 3) := by decide +kernel
theorem dX6_beginFree_21 : decode cX6_beginFree 21 = .ok (.if_icmp .ge 21, 3) := by decide +kernel
theorem dX6_beginFree_24 : decode cX6_beginFree 24 = .ok (.aload_n 0, 1) := by decide +kernel
theorem dX6_beginFree_25 : decode cX6_beginFree 25 = .ok (.getfield 16, 3) := by decide +kernel
theorem dX6_beginFree_28 : decode cX6_beginFree 28 = .ok (.iload_n 2, 1) := by decide +kernel
theorem dX6_beginFree_29 : decode cX6_beginFree 29 = .ok (.iaload, 1) := by decide +kernel
theorem dX6_beginFree_30 : decode cX6_beginFree 30 = .ok (.ifCond .le 12, 3) := by decide +kernel
theorem dX6_beginFree_33 : decode cX6_beginFree 33 = .ok (.aload_n 0, 1) := by decide +kernel
theorem dX6_beginFree_34 : decode cX6_beginFree 34 = .ok (.getfield 19, 3) := by decide +kernel
theorem dX6_beginFree_37 : decode cX6_beginFree 37 = .ok (.iload_n 2, 1) := by decide +kernel
theorem dX6_beginFree_38 : decode cX6_beginFree 38 = .ok (.iaload, 1) := by decide +kernel
theorem dX6_beginFree_39 : decode cX6_beginFree 39 = .ok (.goto 4, 3) := by decide +kernel
theorem dX6_beginFree_42 : decode cX6_beginFree 42 = .ok (.iconst 0, 1) := by decide +kernel
theorem dX6_beginFree_43 : decode cX6_beginFree 43 = .ok (.iastore, 1) := by decide +kernel
theorem dX6_beginFree_44 : decode cX6_beginFree 44 = .ok (.iinc 2 1, 3) := by decide +kernel
theorem dX6_beginFree_47 : decode cX6_beginFree 47 = .ok (.goto (-45), 3) := by decide +kernel
theorem dX6_beginFree_50 : decode cX6_beginFree 50 = .ok (.return_, 1) := by decide +kernel
theorem dX6_sendTo_0 : decode cX6_sendTo 0 = .ok (.aload_n 0, 1) := by decide +kernel
theorem dX6_sendTo_1 : decode cX6_sendTo 1 = .ok (.getfield 59, 3) := by decide +kernel
theorem dX6_sendTo_4 : decode cX6_sendTo 4 = .ok (.iload_n 1, 1) := by decide +kernel
theorem dX6_sendTo_5 : decode cX6_sendTo 5 = .ok (.dup2, 1) := by decide +kernel
theorem dX6_sendTo_6 : decode cX6_sendTo 6 = .ok (.iaload, 1) := by decide +kernel
theorem dX6_sendTo_7 : decode cX6_sendTo 7 = .ok (.aload_n 0, 1) := by decide +kernel
theorem dX6_sendTo_8 : decode cX6_sendTo 8 = .ok (.iload_n 1, 1) := by decide +kernel
theorem dX6_sendTo_9 : decode cX6_sendTo 9 = .ok (.iload_n 2, 1) := by decide +kernel
theorem dX6_sendTo_10 : decode cX6_sendTo 10 = .ok (.invokevirtual 116, 3) := by decide +kernel
theorem dX6_sendTo_13 : decode cX6_sendTo 13 = .ok (.iadd, 1) := by decide +kernel
theorem dX6_sendTo_14 : decode cX6_sendTo 14 = .ok (.iastore, 1) := by decide +kernel
theorem dX6_sendTo_15 : decode cX6_sendTo 15 = .ok (.aload_n 0, 1) := by decide +kernel
theorem dX6_sendTo_16 : decode cX6_sendTo 16 = .ok (.getfield 59, 3) := by decide +kernel
theorem dX6_sendTo_19 : decode cX6_sendTo 19 = .ok (.iload_n 1, 1) := by decide +kernel
theorem dX6_sendTo_20 : decode cX6_sendTo 20 = .ok (.iaload, 1) := by decide +kernel
theorem dX6_sendTo_21 : decode cX6_sendTo 21 = .ok (.ireturn, 1) := by decide +kernel
theorem dX6_least_0 : decode cX6_least 0 = .ok (.aload_n 0, 1) := by decide +kernel
theorem dX6_least_1 : decode cX6_least 1 = .ok (.iconst 0, 1) := by decide +kernel
theorem dX6_least_2 : decode cX6_least 2 = .ok (.putfield 93, 3) := by decide +kernel
theorem dX6_least_5 : decode cX6_least 5 = .ok (.aload_n 0, 1) := by decide +kernel
theorem dX6_least_6 : decode cX6_least 6 = .ok (.invokevirtual 271, 3) := by decide +kernel
theorem dX6_least_9 : decode cX6_least 9 = .ok (.iconst 0, 1) := by decide +kernel
theorem dX6_least_10 : decode cX6_least 10 = .ok (.istore_n 1, 1) := by decide +kernel
theorem dX6_least_11 : decode cX6_least 11 = .ok (.iconst 0, 1) := by decide +kernel
theorem dX6_least_12 : decode cX6_least 12 = .ok (.istore_n 2, 1) := by decide +kernel
theorem dX6_least_13 : decode cX6_least 13 = .ok (.iload_n 2, 1) := by decide +kernel
theorem dX6_least_14 : decode cX6_least 14 = .ok (.aload_n 0, 1) := by decide +kernel
theorem dX6_least_15 : decode cX6_least 15 = .ok (.getfield 97, 3) := by decide +kernel
theorem dX6_least_18 : decode cX6_least 18 = .ok (.if_icmp .ge 29, 3) := by decide +kernel
theorem dX6_least_21 : decode cX6_least 21 = .ok (.aload_n 0, 1) := by decide +kernel
theorem dX6_least_22 : decode cX6_least 22 = .ok (.getfield 7, 3) := by decide +kernel
theorem dX6_least_25 : decode cX6_least 25 = .ok (.iload_n 2, 1) := by decide +kernel
theorem dX6_least_26 : decode cX6_least 26 = .ok (.iaload, 1) := by decide +kernel
theorem dX6_least_27 : decode cX6_least 27 = .ok (.iconst 5, 1) := by decide +kernel
theorem dX6_least_28 : decode cX6_least 28 = .ok (.if_icmp .eq 13, 3) := by decide +kernel
theorem dX6_least_31 : decode cX6_least 31 = .ok (.aload_n 0, 1) := by decide +kernel
theorem dX6_least_32 : decode cX6_least 32 = .ok (.getfield 62, 3) := by decide +kernel
theorem dX6_least_35 : decode cX6_least 35 = .ok (.iload_n 1, 1) := by decide +kernel
theorem dX6_least_36 : decode cX6_least 36 = .ok (.iload_n 2, 1) := by decide +kernel
theorem dX6_least_37 : decode cX6_least 37 = .ok (.iastore, 1) := by decide +kernel
theorem dX6_least_38 : decode cX6_least 38 = .ok (.iinc 1 1, 3) := by decide +kernel
theorem dX6_least_41 : decode cX6_least 41 = .ok (.iinc 2 1, 3) := by decide +kernel
theorem dX6_least_44 : decode cX6_least 44 = .ok (.goto (-31), 3) := by decide +kernel
theorem dX6_least_47 : decode cX6_least 47 = .ok (.aload_n 0, 1) := by decide +kernel
theorem dX6_least_48 : decode cX6_least 48 = .ok (.getfield 268, 3) := by decide +kernel
theorem dX6_least_51 : decode cX6_least 51 = .ok (.bipush 6, 2) := by decide +kernel
theorem dX6_least_53 : decode cX6_least 53 = .ok (.if_icmp .gt 19, 3) := by decide +kernel
theorem dX6_least_56 : decode cX6_least 56 = .ok (.iload_n 1, 1) := by decide +kernel
theorem dX6_least_57 : decode cX6_least 57 = .ok (.iconst 3, 1) := by decide +kernel
theorem dX6_least_58 : decode cX6_least 58 = .ok (.if_icmp .gt 14, 3) := by decide +kernel
theorem dX6_least_61 : decode cX6_least 61 = .ok (.aload_n 0, 1) := by decide +kernel
theorem dX6_least_62 : decode cX6_least 62 = .ok (.getfield 268, 3) := by decide +kernel
theorem dX6_least_65 : decode cX6_least 65 = .ok (.ifCond .le 10, 3) := by decide +kernel
theorem dX6_least_68 : decode cX6_least 68 = .ok (.iload_n 1, 1) := by decide +kernel
theorem dX6_least_69 : decode cX6_least 69 = .ok (.ifCond .ne 6, 3) := by decide +kernel
theorem dX6_least_72 : decode cX6_least 72 = .ok (.bipush (-4), 2) := by decide +kernel
theorem dX6_least_74 : decode cX6_least 74 = .ok (.ireturn, 1) := by decide +kernel
theorem dX6_least_75 : decode cX6_least 75 = .ok (.iconst 1, 1) := by decide +kernel
theorem dX6_least_76 : decode cX6_least 76 = .ok (.istore_n 2, 1) := by decide +kernel
theorem dX6_least_77 : decode cX6_least 77 = .ok (.iconst 0, 1) := by decide +kernel
theorem dX6_least_78 : decode cX6_least 78 = .ok (.istore_n 3, 1) := by decide +kernel
theorem dX6_least_79 : decode cX6_least 79 = .ok (.iload_n 3, 1) := by decide +kernel
theorem dX6_least_80 : decode cX6_least 80 = .ok (.aload_n 0, 1) := by decide +kernel
theorem dX6_least_81 : decode cX6_least 81 = .ok (.getfield 268, 3) := by decide +kernel
theorem dX6_least_84 : decode cX6_least 84 = .ok (.if_icmp .ge 13, 3) := by decide +kernel
theorem dX6_least_87 : decode cX6_least 87 = .ok (.iload_n 2, 1) := by decide +kernel
theorem dX6_least_88 : decode cX6_least 88 = .ok (.iload_n 1, 1) := by decide +kernel
theorem dX6_least_89 : decode cX6_least 89 = .ok (.imul, 1) := by decide +kernel
theorem dX6_least_90 : decode cX6_least 90 = .ok (.istore_n 2, 1) := by decide +kernel
theorem dX6_least_91 : decode cX6_least 91 = .ok (.iinc 3 1, 3) := by decide +kernel
theorem dX6_least_94 : decode cX6_least 94 = .ok (.goto (-15), 3) := by decide +kernel
theorem dX6_least_97 : decode cX6_least 97 = .ok (.iconst (-1), 1) := by decide +kernel
theorem dX6_least_98 : decode cX6_least 98 = .ok (.istore_n 3, 1) := by decide +kernel
theorem dX6_least_99 : decode cX6_least 99 = .ok (.iconst 0, 1) := by decide +kernel
theorem dX6_least_100 : decode cX6_least 100 = .ok (.istore 4, 2) := by decide +kernel
theorem dX6_least_102 : decode cX6_least 102 = .ok (.iload 4, 2) := by decide +kernel
theorem dX6_least_104 : decode cX6_least 104 = .ok (.iload_n 2, 1) := by decide +kernel
theorem dX6_least_105 : decode cX6_least 105 = .ok (.if_icmp .ge 90, 3) := by decide +kernel
theorem dX6_least_108 : decode cX6_least 108 = .ok (.aload_n 0, 1) := by decide +kernel
theorem dX6_least_109 : decode cX6_least 109 = .ok (.iconst 0, 1) := by decide +kernel
theorem dX6_least_110 : decode cX6_least 110 = .ok (.invokevirtual 274, 3) := by decide +kernel
theorem dX6_least_113 : decode cX6_least 113 = .ok (.aload_n 0, 1) := by decide +kernel
theorem dX6_least_114 : decode cX6_least 114 = .ok (.invokevirtual 278, 3) := by decide +kernel
theorem dX6_least_117 : decode cX6_least 117 = .ok (.istore 5, 2) := by decide +kernel
theorem dX6_least_119 : decode cX6_least 119 = .ok (.iload 4, 2) := by decide +kernel
theorem dX6_least_121 : decode cX6_least 121 = .ok (.istore 6, 2) := by decide +kernel
theorem dX6_least_123 : decode cX6_least 123 = .ok (.iconst 0, 1) := by decide +kernel
theorem dX6_least_124 : decode cX6_least 124 = .ok (.istore 7, 2) := by decide +kernel
theorem dX6_least_126 : decode cX6_least 126 = .ok (.iload 7, 2) := by decide +kernel
theorem dX6_least_128 : decode cX6_least 128 = .ok (.aload_n 0, 1) := by decide +kernel
theorem dX6_least_129 : decode cX6_least 129 = .ok (.getfield 268, 3) := by decide +kernel
theorem dX6_least_132 : decode cX6_least 132 = .ok (.if_icmp .ge 40, 3) := by decide +kernel
theorem dX6_least_135 : decode cX6_least 135 = .ok (.iload 5, 2) := by decide +kernel
theorem dX6_least_137 : decode cX6_least 137 = .ok (.aload_n 0, 1) := by decide +kernel
theorem dX6_least_138 : decode cX6_least 138 = .ok (.aload_n 0, 1) := by decide +kernel
theorem dX6_least_139 : decode cX6_least 139 = .ok (.getfield 62, 3) := by decide +kernel
theorem dX6_least_142 : decode cX6_least 142 = .ok (.iload 6, 2) := by decide +kernel
theorem dX6_least_144 : decode cX6_least 144 = .ok (.iload_n 1, 1) := by decide +kernel
theorem dX6_least_145 : decode cX6_least 145 = .ok (.irem, 1) := by decide +kernel
theorem dX6_least_146 : decode cX6_least 146 = .ok (.iaload, 1) := by decide +kernel
theorem dX6_least_147 : decode cX6_least 147 = .ok (.aload_n 0, 1) := by decide +kernel
theorem dX6_least_148 : decode cX6_least 148 = .ok (.getfield 56, 3) := by decide +kernel
theorem dX6_least_151 : decode cX6_least 151 = .ok (.iload 7, 2) := by decide +kernel
theorem dX6_least_153 : decode cX6_least 153 = .ok (.iaload, 1) := by decide +kernel
theorem dX6_least_154 : decode cX6_least 154 = .ok (.invokevirtual 281, 3) := by decide +kernel
theorem dX6_least_157 : decode cX6_least 157 = .ok (.iadd, 1) := by decide +kernel
theorem dX6_least_158 : decode cX6_least 158 = .ok (.istore 5, 2) := by decide +kernel
theorem dX6_least_160 : decode cX6_least 160 = .ok (.iload 6, 2) := by decide +kernel
theorem dX6_least_162 : decode cX6_least 162 = .ok (.iload_n 1, 1) := by decide +kernel
theorem dX6_least_163 : decode cX6_least 163 = .ok (.idiv, 1) := by decide +kernel
theorem dX6_least_164 : decode cX6_least 164 = .ok (.istore 6, 2) := by decide +kernel
theorem dX6_least_166 : decode cX6_least 166 = .ok (.iinc 7 1, 3) := by decide +kernel
theorem dX6_least_169 : decode cX6_least 169 = .ok (.goto (-43), 3) := by decide +kernel
theorem dX6_least_172 : decode cX6_least 172 = .ok (.iload_n 3, 1) := by decide +kernel
theorem dX6_least_173 : decode cX6_least 173 = .ok (.ifCond .lt 9, 3) := by decide +kernel
theorem dX6_least_176 : decode cX6_least 176 = .ok (.iload 5, 2) := by decide +kernel
theorem dX6_least_178 : decode cX6_least 178 = .ok (.iload_n 3, 1) := by decide +kernel
theorem dX6_least_179 : decode cX6_least 179 = .ok (.if_icmp .ge 8, 3) := by decide +kernel
theorem dX6_least_182 : decode cX6_least 182 = .ok (.iload 5, 2) := by decide +kernel
theorem dX6_least_184 : decode cX6_least 184 = .ok (.goto 4, 3) := by decide +kernel
theorem dX6_least_187 : decode cX6_least 187 = .ok (.iload_n 3, 1) := by decide +kernel
theorem dX6_least_188 : decode cX6_least 188 = .ok (.istore_n 3, 1) := by decide +kernel
theorem dX6_least_189 : decode cX6_least 189 = .ok (.iinc 4 1, 3) := by decide +kernel
theorem dX6_least_192 : decode cX6_least 192 = .ok (.goto (-90), 3) := by decide +kernel
theorem dX6_least_195 : decode cX6_least 195 = .ok (.iload_n 3, 1) := by decide +kernel
theorem dX6_least_196 : decode cX6_least 196 = .ok (.ireturn, 1) := by decide +kernel
theorem dX6_oneLine_0 : decode cX6_oneLine 0 = .ok (.aload_n 0, 1) := by decide +kernel
theorem dX6_oneLine_1 : decode cX6_oneLine 1 = .ok (.iconst 0, 1) := by decide +kernel
theorem dX6_oneLine_2 : decode cX6_oneLine 2 = .ok (.putfield 93, 3) := by decide +kernel
theorem dX6_oneLine_5 : decode cX6_oneLine 5 = .ok (.aload_n 0, 1) := by decide +kernel
theorem dX6_oneLine_6 : decode cX6_oneLine 6 = .ok (.getfield 97, 3) := by decide +kernel
theorem dX6_oneLine_9 : decode cX6_oneLine 9 = .ok (.ifCond .ne 6, 3) := by decide +kernel
theorem dX6_oneLine_12 : decode cX6_oneLine 12 = .ok (.bipush (-4), 2) := by decide +kernel
theorem dX6_oneLine_14 : decode cX6_oneLine 14 = .ok (.ireturn, 1) := by decide +kernel
theorem dX6_oneLine_15 : decode cX6_oneLine 15 = .ok (.aload_n 0, 1) := by decide +kernel
theorem dX6_oneLine_16 : decode cX6_oneLine 16 = .ok (.invokevirtual 271, 3) := by decide +kernel
theorem dX6_oneLine_19 : decode cX6_oneLine 19 = .ok (.aload_n 0, 1) := by decide +kernel
theorem dX6_oneLine_20 : decode cX6_oneLine 20 = .ok (.iconst 0, 1) := by decide +kernel
theorem dX6_oneLine_21 : decode cX6_oneLine 21 = .ok (.invokevirtual 274, 3) := by decide +kernel
theorem dX6_oneLine_24 : decode cX6_oneLine 24 = .ok (.aload_n 0, 1) := by decide +kernel
theorem dX6_oneLine_25 : decode cX6_oneLine 25 = .ok (.invokevirtual 278, 3) := by decide +kernel
theorem dX6_oneLine_28 : decode cX6_oneLine 28 = .ok (.istore_n 1, 1) := by decide +kernel
theorem dX6_oneLine_29 : decode cX6_oneLine 29 = .ok (.iconst 0, 1) := by decide +kernel
theorem dX6_oneLine_30 : decode cX6_oneLine 30 = .ok (.istore_n 2, 1) := by decide +kernel
theorem dX6_oneLine_31 : decode cX6_oneLine 31 = .ok (.iload_n 2, 1) := by decide +kernel
theorem dX6_oneLine_32 : decode cX6_oneLine 32 = .ok (.aload_n 0, 1) := by decide +kernel
theorem dX6_oneLine_33 : decode cX6_oneLine 33 = .ok (.getfield 268, 3) := by decide +kernel
theorem dX6_oneLine_36 : decode cX6_oneLine 36 = .ok (.if_icmp .ge 66, 3) := by decide +kernel
theorem dX6_oneLine_39 : decode cX6_oneLine 39 = .ok (.iconst 0, 1) := by decide +kernel
theorem dX6_oneLine_40 : decode cX6_oneLine 40 = .ok (.istore_n 3, 1) := by decide +kernel
theorem dX6_oneLine_41 : decode cX6_oneLine 41 = .ok (.iconst 1, 1) := by decide +kernel
theorem dX6_oneLine_42 : decode cX6_oneLine 42 = .ok (.istore 4, 2) := by decide +kernel
theorem dX6_oneLine_44 : decode cX6_oneLine 44 = .ok (.iload 4, 2) := by decide +kernel
theorem dX6_oneLine_46 : decode cX6_oneLine 46 = .ok (.aload_n 0, 1) := by decide +kernel
theorem dX6_oneLine_47 : decode cX6_oneLine 47 = .ok (.getfield 97, 3) := by decide +kernel
theorem dX6_oneLine_50 : decode cX6_oneLine 50 = .ok (.if_icmp .ge 32, 3) := by decide +kernel
theorem dX6_oneLine_53 : decode cX6_oneLine 53 = .ok (.aload_n 0, 1) := by decide +kernel
theorem dX6_oneLine_54 : decode cX6_oneLine 54 = .ok (.getfield 59, 3) := by decide +kernel
theorem dX6_oneLine_57 : decode cX6_oneLine 57 = .ok (.iload 4, 2) := by decide +kernel
theorem dX6_oneLine_59 : decode cX6_oneLine 59 = .ok (.iaload, 1) := by decide +kernel
theorem dX6_oneLine_60 : decode cX6_oneLine 60 = .ok (.aload_n 0, 1) := by decide +kernel
theorem dX6_oneLine_61 : decode cX6_oneLine 61 = .ok (.getfield 59, 3) := by decide +kernel
theorem dX6_oneLine_64 : decode cX6_oneLine 64 = .ok (.iload_n 3, 1) := by decide +kernel
theorem dX6_oneLine_65 : decode cX6_oneLine 65 = .ok (.iaload, 1) := by decide +kernel
theorem dX6_oneLine_66 : decode cX6_oneLine 66 = .ok (.if_icmp .ge 8, 3) := by decide +kernel
theorem dX6_oneLine_69 : decode cX6_oneLine 69 = .ok (.iload 4, 2) := by decide +kernel
theorem dX6_oneLine_71 : decode cX6_oneLine 71 = .ok (.goto 4, 3) := by decide +kernel
theorem dX6_oneLine_74 : decode cX6_oneLine 74 = .ok (.iload_n 3, 1) := by decide +kernel
theorem dX6_oneLine_75 : decode cX6_oneLine 75 = .ok (.istore_n 3, 1) := by decide +kernel
theorem dX6_oneLine_76 : decode cX6_oneLine 76 = .ok (.iinc 4 1, 3) := by decide +kernel
theorem dX6_oneLine_79 : decode cX6_oneLine 79 = .ok (.goto (-35), 3) := by decide +kernel
theorem dX6_oneLine_82 : decode cX6_oneLine 82 = .ok (.iload_n 1, 1) := by decide +kernel
theorem dX6_oneLine_83 : decode cX6_oneLine 83 = .ok (.aload_n 0, 1) := by decide +kernel
theorem dX6_oneLine_84 : decode cX6_oneLine 84 = .ok (.iload_n 3, 1) := by decide +kernel
theorem dX6_oneLine_85 : decode cX6_oneLine 85 = .ok (.aload_n 0, 1) := by decide +kernel
theorem dX6_oneLine_86 : decode cX6_oneLine 86 = .ok (.getfield 56, 3) := by decide +kernel
theorem dX6_oneLine_89 : decode cX6_oneLine 89 = .ok (.iload_n 2, 1) := by decide +kernel
theorem dX6_oneLine_90 : decode cX6_oneLine 90 = .ok (.iaload, 1) := by decide +kernel
theorem dX6_oneLine_91 : decode cX6_oneLine 91 = .ok (.invokevirtual 281, 3) := by decide +kernel
theorem dX6_oneLine_94 : decode cX6_oneLine 94 = .ok (.iadd, 1) := by decide +kernel
theorem dX6_oneLine_95 : decode cX6_oneLine 95 = .ok (.istore_n 1, 1) := by decide +kernel
theorem dX6_oneLine_96 : decode cX6_oneLine 96 = .ok (.iinc 2 1, 3) := by decide +kernel
theorem dX6_oneLine_99 : decode cX6_oneLine 99 = .ok (.goto (-68), 3) := by decide +kernel
theorem dX6_oneLine_102 : decode cX6_oneLine 102 = .ok (.iload_n 1, 1) := by decide +kernel
theorem dX6_oneLine_103 : decode cX6_oneLine 103 = .ok (.ireturn, 1) := by decide +kernel
theorem dX6_beside_0 : decode cX6_beside 0 = .ok (.aload_n 0, 1) := by decide +kernel
theorem dX6_beside_1 : decode cX6_beside 1 = .ok (.iconst 0, 1) := by decide +kernel
theorem dX6_beside_2 : decode cX6_beside 2 = .ok (.putfield 93, 3) := by decide +kernel
theorem dX6_beside_5 : decode cX6_beside 5 = .ok (.aload_n 0, 1) := by decide +kernel
theorem dX6_beside_6 : decode cX6_beside 6 = .ok (.iload_n 1, 1) := by decide +kernel
theorem dX6_beside_7 : decode cX6_beside 7 = .ok (.invokevirtual 194, 3) := by decide +kernel
theorem dX6_beside_10 : decode cX6_beside 10 = .ok (.ifCond .eq 28, 3) := by decide +kernel
theorem dX6_beside_13 : decode cX6_beside 13 = .ok (.aload_n 0, 1) := by decide +kernel
theorem dX6_beside_14 : decode cX6_beside 14 = .ok (.iload_n 2, 1) := by decide +kernel
theorem dX6_beside_15 : decode cX6_beside 15 = .ok (.invokevirtual 194, 3) := by decide +kernel
theorem dX6_beside_18 : decode cX6_beside 18 = .ok (.ifCond .eq 20, 3) := by decide +kernel
theorem dX6_beside_21 : decode cX6_beside 21 = .ok (.iload_n 1, 1) := by decide +kernel
theorem dX6_beside_22 : decode cX6_beside 22 = .ok (.iload_n 2, 1) := by decide +kernel
theorem dX6_beside_23 : decode cX6_beside 23 = .ok (.if_icmp .eq 15, 3) := by decide +kernel
theorem dX6_beside_26 : decode cX6_beside 26 = .ok (.iload_n 3, 1) := by decide +kernel
theorem dX6_beside_27 : decode cX6_beside 27 = .ok (.i2l, 1) := by decide +kernel
theorem dX6_beside_28 : decode cX6_beside 28 = .ok (.lconst 1, 1) := by decide +kernel
theorem dX6_beside_29 : decode cX6_beside 29 = .ok (.ldc2_w 229, 3) := by decide +kernel
theorem dX6_beside_32 : decode cX6_beside 32 = .ok (.invokestatic 100, 3) := by decide +kernel
theorem dX6_beside_35 : decode cX6_beside 35 = .ok (.ifCond .ne 7, 3) := by decide +kernel
theorem dX6_beside_38 : decode cX6_beside 38 = .ok (.ldc_w 284, 3) := by decide +kernel
theorem dX6_beside_41 : decode cX6_beside 41 = .ok (.ireturn, 1) := by decide +kernel
theorem dX6_beside_42 : decode cX6_beside 42 = .ok (.aload_n 0, 1) := by decide +kernel
theorem dX6_beside_43 : decode cX6_beside 43 = .ok (.invokevirtual 203, 3) := by decide +kernel
theorem dX6_beside_46 : decode cX6_beside 46 = .ok (.iconst 0, 1) := by decide +kernel
theorem dX6_beside_47 : decode cX6_beside 47 = .ok (.istore 4, 2) := by decide +kernel
theorem dX6_beside_49 : decode cX6_beside 49 = .ok (.iconst 0, 1) := by decide +kernel
theorem dX6_beside_50 : decode cX6_beside 50 = .ok (.istore 5, 2) := by decide +kernel
theorem dX6_beside_52 : decode cX6_beside 52 = .ok (.iload 5, 2) := by decide +kernel
theorem dX6_beside_54 : decode cX6_beside 54 = .ok (.iload_n 3, 1) := by decide +kernel
theorem dX6_beside_55 : decode cX6_beside 55 = .ok (.if_icmp .ge 48, 3) := by decide +kernel
theorem dX6_beside_58 : decode cX6_beside 58 = .ok (.aload_n 0, 1) := by decide +kernel
theorem dX6_beside_59 : decode cX6_beside 59 = .ok (.invokevirtual 136, 3) := by decide +kernel
theorem dX6_beside_62 : decode cX6_beside 62 = .ok (.pop, 1) := by decide +kernel
theorem dX6_beside_63 : decode cX6_beside 63 = .ok (.iload 4, 2) := by decide +kernel
theorem dX6_beside_65 : decode cX6_beside 65 = .ok (.aload_n 0, 1) := by decide +kernel
theorem dX6_beside_66 : decode cX6_beside 66 = .ok (.getfield 28, 3) := by decide +kernel
theorem dX6_beside_69 : decode cX6_beside 69 = .ok (.iload_n 2, 1) := by decide +kernel
theorem dX6_beside_70 : decode cX6_beside 70 = .ok (.baload, 1) := by decide +kernel
theorem dX6_beside_71 : decode cX6_beside 71 = .ok (.ifCond .eq 7, 3) := by decide +kernel
theorem dX6_beside_74 : decode cX6_beside 74 = .ok (.iconst 1, 1) := by decide +kernel
theorem dX6_beside_75 : decode cX6_beside 75 = .ok (.goto 4, 3) := by decide +kernel
theorem dX6_beside_78 : decode cX6_beside 78 = .ok (.iconst 0, 1) := by decide +kernel
theorem dX6_beside_79 : decode cX6_beside 79 = .ok (.aload_n 0, 1) := by decide +kernel
theorem dX6_beside_80 : decode cX6_beside 80 = .ok (.getfield 28, 3) := by decide +kernel
theorem dX6_beside_83 : decode cX6_beside 83 = .ok (.iload_n 1, 1) := by decide +kernel
theorem dX6_beside_84 : decode cX6_beside 84 = .ok (.baload, 1) := by decide +kernel
theorem dX6_beside_85 : decode cX6_beside 85 = .ok (.ifCond .eq 7, 3) := by decide +kernel
theorem dX6_beside_88 : decode cX6_beside 88 = .ok (.iconst 1, 1) := by decide +kernel
theorem dX6_beside_89 : decode cX6_beside 89 = .ok (.goto 4, 3) := by decide +kernel
theorem dX6_beside_92 : decode cX6_beside 92 = .ok (.iconst 0, 1) := by decide +kernel
theorem dX6_beside_93 : decode cX6_beside 93 = .ok (.isub, 1) := by decide +kernel
theorem dX6_beside_94 : decode cX6_beside 94 = .ok (.iadd, 1) := by decide +kernel
theorem dX6_beside_95 : decode cX6_beside 95 = .ok (.istore 4, 2) := by decide +kernel
theorem dX6_beside_97 : decode cX6_beside 97 = .ok (.iinc 5 1, 3) := by decide +kernel
theorem dX6_beside_100 : decode cX6_beside 100 = .ok (.goto (-48), 3) := by decide +kernel
theorem dX6_beside_103 : decode cX6_beside 103 = .ok (.aload_n 0, 1) := by decide +kernel
theorem dX6_beside_104 : decode cX6_beside 104 = .ok (.invokevirtual 209, 3) := by decide +kernel
theorem dX6_beside_107 : decode cX6_beside 107 = .ok (.iload 4, 2) := by decide +kernel
theorem dX6_beside_109 : decode cX6_beside 109 = .ok (.ireturn, 1) := by decide +kernel
theorem dX6_wrongSorts_0 : decode cX6_wrongSorts 0 = .ok (.aload_n 0, 1) := by decide +kernel
theorem dX6_wrongSorts_1 : decode cX6_wrongSorts 1 = .ok (.iload_n 1, 1) := by decide +kernel
theorem dX6_wrongSorts_2 : decode cX6_wrongSorts 2 = .ok (.invokevirtual 197, 3) := by decide +kernel
theorem dX6_wrongSorts_5 : decode cX6_wrongSorts 5 = .ok (.istore_n 2, 1) := by decide +kernel
theorem dX6_wrongSorts_6 : decode cX6_wrongSorts 6 = .ok (.iload_n 2, 1) := by decide +kernel
theorem dX6_wrongSorts_7 : decode cX6_wrongSorts 7 = .ok (.ifCond .ge 5, 3) := by decide +kernel
theorem dX6_wrongSorts_10 : decode cX6_wrongSorts 10 = .ok (.iload_n 2, 1) := by decide +kernel
theorem dX6_wrongSorts_11 : decode cX6_wrongSorts 11 = .ok (.ireturn, 1) := by decide +kernel
theorem dX6_wrongSorts_12 : decode cX6_wrongSorts 12 = .ok (.aload_n 0, 1) := by decide +kernel
theorem dX6_wrongSorts_13 : decode cX6_wrongSorts 13 = .ok (.getfield 83, 3) := by decide +kernel
theorem dX6_wrongSorts_16 : decode cX6_wrongSorts 16 = .ok (.iload_n 1, 1) := by decide +kernel
theorem dX6_wrongSorts_17 : decode cX6_wrongSorts 17 = .ok (.iaload, 1) := by decide +kernel
theorem dX6_wrongSorts_18 : decode cX6_wrongSorts 18 = .ok (.bipush 20, 2) := by decide +kernel
theorem dX6_wrongSorts_20 : decode cX6_wrongSorts 20 = .ok (.if_icmp .gt 7, 3) := by decide +kernel
theorem dX6_wrongSorts_23 : decode cX6_wrongSorts 23 = .ok (.iconst 1, 1) := by decide +kernel
theorem dX6_wrongSorts_24 : decode cX6_wrongSorts 24 = .ok (.goto 4, 3) := by decide +kernel
theorem dX6_wrongSorts_27 : decode cX6_wrongSorts 27 = .ok (.iconst 0, 1) := by decide +kernel
theorem dX6_wrongSorts_28 : decode cX6_wrongSorts 28 = .ok (.istore_n 3, 1) := by decide +kernel
theorem dX6_wrongSorts_29 : decode cX6_wrongSorts 29 = .ok (.iconst 0, 1) := by decide +kernel
theorem dX6_wrongSorts_30 : decode cX6_wrongSorts 30 = .ok (.istore 4, 2) := by decide +kernel
theorem dX6_wrongSorts_32 : decode cX6_wrongSorts 32 = .ok (.iload 4, 2) := by decide +kernel
theorem dX6_wrongSorts_34 : decode cX6_wrongSorts 34 = .ok (.aload_n 0, 1) := by decide +kernel
theorem dX6_wrongSorts_35 : decode cX6_wrongSorts 35 = .ok (.getfield 83, 3) := by decide +kernel
theorem dX6_wrongSorts_38 : decode cX6_wrongSorts 38 = .ok (.iload_n 1, 1) := by decide +kernel
theorem dX6_wrongSorts_39 : decode cX6_wrongSorts 39 = .ok (.iaload, 1) := by decide +kernel
theorem dX6_wrongSorts_40 : decode cX6_wrongSorts 40 = .ok (.if_icmp .ge 33, 3) := by decide +kernel
theorem dX6_wrongSorts_43 : decode cX6_wrongSorts 43 = .ok (.iload_n 3, 1) := by decide +kernel
theorem dX6_wrongSorts_44 : decode cX6_wrongSorts 44 = .ok (.ifCond .eq 29, 3) := by decide +kernel
theorem dX6_wrongSorts_47 : decode cX6_wrongSorts 47 = .ok (.aload_n 0, 1) := by decide +kernel
theorem dX6_wrongSorts_48 : decode cX6_wrongSorts 48 = .ok (.getfield 86, 3) := by decide +kernel
theorem dX6_wrongSorts_51 : decode cX6_wrongSorts 51 = .ok (.bipush 100, 2) := by decide +kernel
theorem dX6_wrongSorts_53 : decode cX6_wrongSorts 53 = .ok (.iload_n 1, 1) := by decide +kernel
theorem dX6_wrongSorts_54 : decode cX6_wrongSorts 54 = .ok (.imul, 1) := by decide +kernel
theorem dX6_wrongSorts_55 : decode cX6_wrongSorts 55 = .ok (.iload 4, 2) := by decide +kernel
theorem dX6_wrongSorts_57 : decode cX6_wrongSorts 57 = .ok (.iadd, 1) := by decide +kernel
theorem dX6_wrongSorts_58 : decode cX6_wrongSorts 58 = .ok (.laload, 1) := by decide +kernel
theorem dX6_wrongSorts_59 : decode cX6_wrongSorts 59 = .ok (.lconst 0, 1) := by decide +kernel
theorem dX6_wrongSorts_60 : decode cX6_wrongSorts 60 = .ok (.ldc2_w 221, 3) := by decide +kernel
theorem dX6_wrongSorts_63 : decode cX6_wrongSorts 63 = .ok (.invokestatic 100, 3) := by decide +kernel
theorem dX6_wrongSorts_66 : decode cX6_wrongSorts 66 = .ok (.istore_n 3, 1) := by decide +kernel
theorem dX6_wrongSorts_67 : decode cX6_wrongSorts 67 = .ok (.iinc 4 1, 3) := by decide +kernel
theorem dX6_wrongSorts_70 : decode cX6_wrongSorts 70 = .ok (.goto (-38), 3) := by decide +kernel
theorem dX6_wrongSorts_73 : decode cX6_wrongSorts 73 = .ok (.iload_n 3, 1) := by decide +kernel
theorem dX6_wrongSorts_74 : decode cX6_wrongSorts 74 = .ok (.ifCond .eq 7, 3) := by decide +kernel
theorem dX6_wrongSorts_77 : decode cX6_wrongSorts 77 = .ok (.iconst 0, 1) := by decide +kernel
theorem dX6_wrongSorts_78 : decode cX6_wrongSorts 78 = .ok (.goto 5, 3) := by decide +kernel
theorem dX6_wrongSorts_81 : decode cX6_wrongSorts 81 = .ok (.bipush (-13), 2) := by decide +kernel
theorem dX6_wrongSorts_83 : decode cX6_wrongSorts 83 = .ok (.ireturn, 1) := by decide +kernel
theorem dX6_chosen_0 : decode cX6_chosen 0 = .ok (.iload_n 1, 1) := by decide +kernel
theorem dX6_chosen_1 : decode cX6_chosen 1 = .ok (.ifCond .ne 8, 3) := by decide +kernel
theorem dX6_chosen_4 : decode cX6_chosen 4 = .ok (.aload_n 0, 1) := by decide +kernel
theorem dX6_chosen_5 : decode cX6_chosen 5 = .ok (.invokevirtual 234, 3) := by decide +kernel
theorem dX6_chosen_8 : decode cX6_chosen 8 = .ok (.ireturn, 1) := by decide +kernel
theorem dX6_chosen_9 : decode cX6_chosen 9 = .ok (.iload_n 1, 1) := by decide +kernel
theorem dX6_chosen_10 : decode cX6_chosen 10 = .ok (.iconst 1, 1) := by decide +kernel
theorem dX6_chosen_11 : decode cX6_chosen 11 = .ok (.if_icmp .ne 9, 3) := by decide +kernel
theorem dX6_chosen_14 : decode cX6_chosen 14 = .ok (.aload_n 0, 1) := by decide +kernel
theorem dX6_chosen_15 : decode cX6_chosen 15 = .ok (.iload_n 2, 1) := by decide +kernel
theorem dX6_chosen_16 : decode cX6_chosen 16 = .ok (.invokevirtual 237, 3) := by decide +kernel
theorem dX6_chosen_19 : decode cX6_chosen 19 = .ok (.ireturn, 1) := by decide +kernel
theorem dX6_chosen_20 : decode cX6_chosen 20 = .ok (.aload_n 0, 1) := by decide +kernel
theorem dX6_chosen_21 : decode cX6_chosen 21 = .ok (.getfield 97, 3) := by decide +kernel
theorem dX6_chosen_24 : decode cX6_chosen 24 = .ok (.ifCond .le 25, 3) := by decide +kernel
theorem dX6_chosen_27 : decode cX6_chosen 27 = .ok (.aload_n 0, 1) := by decide +kernel
theorem dX6_chosen_28 : decode cX6_chosen 28 = .ok (.iload_n 3, 1) := by decide +kernel
theorem dX6_chosen_29 : decode cX6_chosen 29 = .ok (.aload_n 0, 1) := by decide +kernel
theorem dX6_chosen_30 : decode cX6_chosen 30 = .ok (.getfield 97, 3) := by decide +kernel
theorem dX6_chosen_33 : decode cX6_chosen 33 = .ok (.irem, 1) := by decide +kernel
theorem dX6_chosen_34 : decode cX6_chosen 34 = .ok (.invokevirtual 231, 3) := by decide +kernel
theorem dX6_chosen_37 : decode cX6_chosen 37 = .ok (.ifCond .eq 12, 3) := by decide +kernel
theorem dX6_chosen_40 : decode cX6_chosen 40 = .ok (.iload_n 3, 1) := by decide +kernel
theorem dX6_chosen_41 : decode cX6_chosen 41 = .ok (.aload_n 0, 1) := by decide +kernel
theorem dX6_chosen_42 : decode cX6_chosen 42 = .ok (.getfield 97, 3) := by decide +kernel
theorem dX6_chosen_45 : decode cX6_chosen 45 = .ok (.irem, 1) := by decide +kernel
theorem dX6_chosen_46 : decode cX6_chosen 46 = .ok (.goto 5, 3) := by decide +kernel
theorem dX6_chosen_49 : decode cX6_chosen 49 = .ok (.bipush (-4), 2) := by decide +kernel
theorem dX6_chosen_51 : decode cX6_chosen 51 = .ok (.ireturn, 1) := by decide +kernel
theorem dX6_comers_0 : decode cX6_comers 0 = .ok (.aload_n 0, 1) := by decide +kernel
theorem dX6_comers_1 : decode cX6_comers 1 = .ok (.iconst 0, 1) := by decide +kernel
theorem dX6_comers_2 : decode cX6_comers 2 = .ok (.putfield 93, 3) := by decide +kernel
theorem dX6_comers_5 : decode cX6_comers 5 = .ok (.iload_n 2, 1) := by decide +kernel
theorem dX6_comers_6 : decode cX6_comers 6 = .ok (.i2l, 1) := by decide +kernel
theorem dX6_comers_7 : decode cX6_comers 7 = .ok (.lconst 0, 1) := by decide +kernel
theorem dX6_comers_8 : decode cX6_comers 8 = .ok (.ldc2_w 285, 3) := by decide +kernel
theorem dX6_comers_11 : decode cX6_comers 11 = .ok (.invokestatic 100, 3) := by decide +kernel
theorem dX6_comers_14 : decode cX6_comers 14 = .ok (.ifCond .eq 26, 3) := by decide +kernel
theorem dX6_comers_17 : decode cX6_comers 17 = .ok (.iload_n 3, 1) := by decide +kernel
theorem dX6_comers_18 : decode cX6_comers 18 = .ok (.i2l, 1) := by decide +kernel
theorem dX6_comers_19 : decode cX6_comers 19 = .ok (.lconst 0, 1) := by decide +kernel
theorem dX6_comers_20 : decode cX6_comers 20 = .ok (.ldc2_w 287, 3) := by decide +kernel
theorem dX6_comers_23 : decode cX6_comers 23 = .ok (.invokestatic 100, 3) := by decide +kernel
theorem dX6_comers_26 : decode cX6_comers 26 = .ok (.ifCond .eq 14, 3) := by decide +kernel
theorem dX6_comers_29 : decode cX6_comers 29 = .ok (.iload 4, 2) := by decide +kernel
theorem dX6_comers_31 : decode cX6_comers 31 = .ok (.i2l, 1) := by decide +kernel
theorem dX6_comers_32 : decode cX6_comers 32 = .ok (.lconst 0, 1) := by decide +kernel
theorem dX6_comers_33 : decode cX6_comers 33 = .ok (.lconst 1, 1) := by decide +kernel
theorem dX6_comers_34 : decode cX6_comers 34 = .ok (.invokestatic 100, 3) := by decide +kernel
theorem dX6_comers_37 : decode cX6_comers 37 = .ok (.ifCond .ne 7, 3) := by decide +kernel
theorem dX6_comers_40 : decode cX6_comers 40 = .ok (.iconst (-1), 1) := by decide +kernel
theorem dX6_comers_41 : decode cX6_comers 41 = .ok (.goto 8, 3) := by decide +kernel
theorem dX6_comers_44 : decode cX6_comers 44 = .ok (.aload_n 0, 1) := by decide +kernel
theorem dX6_comers_45 : decode cX6_comers 45 = .ok (.iload_n 1, 1) := by decide +kernel
theorem dX6_comers_46 : decode cX6_comers 46 = .ok (.invokevirtual 289, 3) := by decide +kernel
theorem dX6_comers_49 : decode cX6_comers 49 = .ok (.istore 5, 2) := by decide +kernel
theorem dX6_comers_51 : decode cX6_comers 51 = .ok (.iload 5, 2) := by decide +kernel
theorem dX6_comers_53 : decode cX6_comers 53 = .ok (.ifCond .ge 6, 3) := by decide +kernel
theorem dX6_comers_56 : decode cX6_comers 56 = .ok (.iload 5, 2) := by decide +kernel
theorem dX6_comers_58 : decode cX6_comers 58 = .ok (.ireturn, 1) := by decide +kernel
theorem dX6_comers_59 : decode cX6_comers 59 = .ok (.aload_n 0, 1) := by decide +kernel
theorem dX6_comers_60 : decode cX6_comers 60 = .ok (.invokevirtual 203, 3) := by decide +kernel
theorem dX6_comers_63 : decode cX6_comers 63 = .ok (.iconst 0, 1) := by decide +kernel
theorem dX6_comers_64 : decode cX6_comers 64 = .ok (.istore 6, 2) := by decide +kernel
theorem dX6_comers_66 : decode cX6_comers 66 = .ok (.iconst 0, 1) := by decide +kernel
theorem dX6_comers_67 : decode cX6_comers 67 = .ok (.istore 7, 2) := by decide +kernel
theorem dX6_comers_69 : decode cX6_comers 69 = .ok (.iconst 0, 1) := by decide +kernel
theorem dX6_comers_70 : decode cX6_comers 70 = .ok (.istore 8, 2) := by decide +kernel
theorem dX6_comers_72 : decode cX6_comers 72 = .ok (.iload 8, 2) := by decide +kernel
theorem dX6_comers_74 : decode cX6_comers 74 = .ok (.aload_n 0, 1) := by decide +kernel
theorem dX6_comers_75 : decode cX6_comers 75 = .ok (.getfield 83, 3) := by decide +kernel
theorem dX6_comers_78 : decode cX6_comers 78 = .ok (.iload_n 1, 1) := by decide +kernel
theorem dX6_comers_79 : decode cX6_comers 79 = .ok (.iaload, 1) := by decide +kernel
theorem dX6_comers_80 : decode cX6_comers 80 = .ok (.if_icmp .ge 79, 3) := by decide +kernel
theorem dX6_comers_83 : decode cX6_comers 83 = .ok (.aload_n 0, 1) := by decide +kernel
theorem dX6_comers_84 : decode cX6_comers 84 = .ok (.iload 8, 2) := by decide +kernel
theorem dX6_comers_86 : decode cX6_comers 86 = .ok (.ifCond .le 7, 3) := by decide +kernel
theorem dX6_comers_89 : decode cX6_comers 89 = .ok (.iload_n 2, 1) := by decide +kernel
theorem dX6_comers_90 : decode cX6_comers 90 = .ok (.goto 4, 3) := by decide +kernel
theorem dX6_comers_93 : decode cX6_comers 93 = .ok (.iconst 0, 1) := by decide +kernel
theorem dX6_comers_94 : decode cX6_comers 94 = .ok (.invokevirtual 191, 3) := by decide +kernel
theorem dX6_comers_97 : decode cX6_comers 97 = .ok (.pop, 1) := by decide +kernel
theorem dX6_comers_98 : decode cX6_comers 98 = .ok (.aload_n 0, 1) := by decide +kernel
theorem dX6_comers_99 : decode cX6_comers 99 = .ok (.getfield 86, 3) := by decide +kernel
theorem dX6_comers_102 : decode cX6_comers 102 = .ok (.bipush 100, 2) := by decide +kernel
theorem dX6_comers_104 : decode cX6_comers 104 = .ok (.iload_n 1, 1) := by decide +kernel
theorem dX6_comers_105 : decode cX6_comers 105 = .ok (.imul, 1) := by decide +kernel
theorem dX6_comers_106 : decode cX6_comers 106 = .ok (.iload 8, 2) := by decide +kernel
theorem dX6_comers_108 : decode cX6_comers 108 = .ok (.iadd, 1) := by decide +kernel
theorem dX6_comers_109 : decode cX6_comers 109 = .ok (.laload, 1) := by decide +kernel
theorem dX6_comers_110 : decode cX6_comers 110 = .ok (.l2i, 1) := by decide +kernel
theorem dX6_comers_111 : decode cX6_comers 111 = .ok (.istore 9, 2) := by decide +kernel
theorem dX6_comers_113 : decode cX6_comers 113 = .ok (.aload_n 0, 1) := by decide +kernel
theorem dX6_comers_114 : decode cX6_comers 114 = .ok (.iload_n 3, 1) := by decide +kernel
theorem dX6_comers_115 : decode cX6_comers 115 = .ok (.iload 9, 2) := by decide +kernel
theorem dX6_comers_117 : decode cX6_comers 117 = .ok (.iload 8, 2) := by decide +kernel
theorem dX6_comers_119 : decode cX6_comers 119 = .ok (.invokevirtual 292, 3) := by decide +kernel
theorem dX6_comers_122 : decode cX6_comers 122 = .ok (.istore 10, 2) := by decide +kernel
theorem dX6_comers_124 : decode cX6_comers 124 = .ok (.iload 10, 2) := by decide +kernel
theorem dX6_comers_126 : decode cX6_comers 126 = .ok (.ifCond .lt 27, 3) := by decide +kernel
theorem dX6_comers_129 : decode cX6_comers 129 = .ok (.iload 7, 2) := by decide +kernel
theorem dX6_comers_131 : decode cX6_comers 131 = .ok (.aload_n 0, 1) := by decide +kernel
theorem dX6_comers_132 : decode cX6_comers 132 = .ok (.iload 10, 2) := by decide +kernel
theorem dX6_comers_134 : decode cX6_comers 134 = .ok (.iload 9, 2) := by decide +kernel
theorem dX6_comers_136 : decode cX6_comers 136 = .ok (.invokevirtual 226, 3) := by decide +kernel
theorem dX6_comers_139 : decode cX6_comers 139 = .ok (.iadd, 1) := by decide +kernel
theorem dX6_comers_140 : decode cX6_comers 140 = .ok (.istore 7, 2) := by decide +kernel
theorem dX6_comers_142 : decode cX6_comers 142 = .ok (.aload_n 0, 1) := by decide +kernel
theorem dX6_comers_143 : decode cX6_comers 143 = .ok (.iload 10, 2) := by decide +kernel
theorem dX6_comers_145 : decode cX6_comers 145 = .ok (.iload 9, 2) := by decide +kernel
theorem dX6_comers_147 : decode cX6_comers 147 = .ok (.invokevirtual 185, 3) := by decide +kernel
theorem dX6_comers_150 : decode cX6_comers 150 = .ok (.iinc 6 1, 3) := by decide +kernel
theorem dX6_comers_153 : decode cX6_comers 153 = .ok (.iinc 8 1, 3) := by decide +kernel
theorem dX6_comers_156 : decode cX6_comers 156 = .ok (.goto (-84), 3) := by decide +kernel
theorem dX6_comers_159 : decode cX6_comers 159 = .ok (.aload_n 0, 1) := by decide +kernel
theorem dX6_comers_160 : decode cX6_comers 160 = .ok (.invokevirtual 209, 3) := by decide +kernel
theorem dX6_comers_163 : decode cX6_comers 163 = .ok (.iload 4, 2) := by decide +kernel
theorem dX6_comers_165 : decode cX6_comers 165 = .ok (.ifCond .ne 8, 3) := by decide +kernel
theorem dX6_comers_168 : decode cX6_comers 168 = .ok (.iload 6, 2) := by decide +kernel
theorem dX6_comers_170 : decode cX6_comers 170 = .ok (.goto 5, 3) := by decide +kernel
theorem dX6_comers_173 : decode cX6_comers 173 = .ok (.iload 7, 2) := by decide +kernel
theorem dX6_comers_175 : decode cX6_comers 175 = .ok (.ireturn, 1) := by decide +kernel
theorem dX6_opens_0 : decode cX6_opens 0 = .ok (.aload_n 0, 1) := by decide +kernel
theorem dX6_opens_1 : decode cX6_opens 1 = .ok (.iconst 0, 1) := by decide +kernel
theorem dX6_opens_2 : decode cX6_opens 2 = .ok (.putfield 93, 3) := by decide +kernel
theorem dX6_opens_5 : decode cX6_opens 5 = .ok (.iload_n 2, 1) := by decide +kernel
theorem dX6_opens_6 : decode cX6_opens 6 = .ok (.i2l, 1) := by decide +kernel
theorem dX6_opens_7 : decode cX6_opens 7 = .ok (.lconst 0, 1) := by decide +kernel
theorem dX6_opens_8 : decode cX6_opens 8 = .ok (.ldc2_w 285, 3) := by decide +kernel
theorem dX6_opens_11 : decode cX6_opens 11 = .ok (.invokestatic 100, 3) := by decide +kernel
theorem dX6_opens_14 : decode cX6_opens 14 = .ok (.ifCond .eq 15, 3) := by decide +kernel
theorem dX6_opens_17 : decode cX6_opens 17 = .ok (.iload_n 3, 1) := by decide +kernel
theorem dX6_opens_18 : decode cX6_opens 18 = .ok (.i2l, 1) := by decide +kernel
theorem dX6_opens_19 : decode cX6_opens 19 = .ok (.lconst 0, 1) := by decide +kernel
theorem dX6_opens_20 : decode cX6_opens 20 = .ok (.ldc2_w 263, 3) := by decide +kernel
theorem dX6_opens_23 : decode cX6_opens 23 = .ok (.invokestatic 100, 3) := by decide +kernel
theorem dX6_opens_26 : decode cX6_opens 26 = .ok (.ifCond .ne 7, 3) := by decide +kernel
theorem dX6_opens_29 : decode cX6_opens 29 = .ok (.iconst (-1), 1) := by decide +kernel
theorem dX6_opens_30 : decode cX6_opens 30 = .ok (.goto 8, 3) := by decide +kernel
theorem dX6_opens_33 : decode cX6_opens 33 = .ok (.aload_n 0, 1) := by decide +kernel
theorem dX6_opens_34 : decode cX6_opens 34 = .ok (.iload_n 1, 1) := by decide +kernel
theorem dX6_opens_35 : decode cX6_opens 35 = .ok (.invokevirtual 289, 3) := by decide +kernel
theorem dX6_opens_38 : decode cX6_opens 38 = .ok (.istore 4, 2) := by decide +kernel
theorem dX6_opens_40 : decode cX6_opens 40 = .ok (.iload 4, 2) := by decide +kernel
theorem dX6_opens_42 : decode cX6_opens 42 = .ok (.ifCond .ge 6, 3) := by decide +kernel
theorem dX6_opens_45 : decode cX6_opens 45 = .ok (.iload 4, 2) := by decide +kernel
theorem dX6_opens_47 : decode cX6_opens 47 = .ok (.ireturn, 1) := by decide +kernel
theorem dX6_opens_48 : decode cX6_opens 48 = .ok (.aload_n 0, 1) := by decide +kernel
theorem dX6_opens_49 : decode cX6_opens 49 = .ok (.invokevirtual 203, 3) := by decide +kernel
theorem dX6_opens_52 : decode cX6_opens 52 = .ok (.aload_n 0, 1) := by decide +kernel
theorem dX6_opens_53 : decode cX6_opens 53 = .ok (.getfield 97, 3) := by decide +kernel
theorem dX6_opens_56 : decode cX6_opens 56 = .ok (.istore 5, 2) := by decide +kernel
theorem dX6_opens_58 : decode cX6_opens 58 = .ok (.iconst 0, 1) := by decide +kernel
theorem dX6_opens_59 : decode cX6_opens 59 = .ok (.istore 6, 2) := by decide +kernel
theorem dX6_opens_61 : decode cX6_opens 61 = .ok (.iload 6, 2) := by decide +kernel
theorem dX6_opens_63 : decode cX6_opens 63 = .ok (.aload_n 0, 1) := by decide +kernel
theorem dX6_opens_64 : decode cX6_opens 64 = .ok (.getfield 83, 3) := by decide +kernel
theorem dX6_opens_67 : decode cX6_opens 67 = .ok (.iload_n 1, 1) := by decide +kernel
theorem dX6_opens_68 : decode cX6_opens 68 = .ok (.iaload, 1) := by decide +kernel
theorem dX6_opens_69 : decode cX6_opens 69 = .ok (.if_icmp .ge 152, 3) := by decide +kernel
theorem dX6_opens_72 : decode cX6_opens 72 = .ok (.aload_n 0, 1) := by decide +kernel
theorem dX6_opens_73 : decode cX6_opens 73 = .ok (.iload 6, 2) := by decide +kernel
theorem dX6_opens_75 : decode cX6_opens 75 = .ok (.ifCond .le 7, 3) := by decide +kernel
theorem dX6_opens_78 : decode cX6_opens 78 = .ok (.iload_n 2, 1) := by decide +kernel
theorem dX6_opens_79 : decode cX6_opens 79 = .ok (.goto 4, 3) := by decide +kernel
theorem dX6_opens_82 : decode cX6_opens 82 = .ok (.iconst 0, 1) := by decide +kernel
theorem dX6_opens_83 : decode cX6_opens 83 = .ok (.invokevirtual 191, 3) := by decide +kernel
theorem dX6_opens_86 : decode cX6_opens 86 = .ok (.pop, 1) := by decide +kernel
theorem dX6_opens_87 : decode cX6_opens 87 = .ok (.aload_n 0, 1) := by decide +kernel
theorem dX6_opens_88 : decode cX6_opens 88 = .ok (.getfield 86, 3) := by decide +kernel
theorem dX6_opens_91 : decode cX6_opens 91 = .ok (.bipush 100, 2) := by decide +kernel
theorem dX6_opens_93 : decode cX6_opens 93 = .ok (.iload_n 1, 1) := by decide +kernel
theorem dX6_opens_94 : decode cX6_opens 94 = .ok (.imul, 1) := by decide +kernel
theorem dX6_opens_95 : decode cX6_opens 95 = .ok (.iload 6, 2) := by decide +kernel
theorem dX6_opens_97 : decode cX6_opens 97 = .ok (.iadd, 1) := by decide +kernel
theorem dX6_opens_98 : decode cX6_opens 98 = .ok (.laload, 1) := by decide +kernel
theorem dX6_opens_99 : decode cX6_opens 99 = .ok (.l2i, 1) := by decide +kernel
theorem dX6_opens_100 : decode cX6_opens 100 = .ok (.istore 7, 2) := by decide +kernel
theorem dX6_opens_102 : decode cX6_opens 102 = .ok (.aload_n 0, 1) := by decide +kernel
theorem dX6_opens_103 : decode cX6_opens 103 = .ok (.iload 7, 2) := by decide +kernel
theorem dX6_opens_105 : decode cX6_opens 105 = .ok (.invokevirtual 237, 3) := by decide +kernel
theorem dX6_opens_108 : decode cX6_opens 108 = .ok (.istore 8, 2) := by decide +kernel
theorem dX6_opens_110 : decode cX6_opens 110 = .ok (.aload_n 0, 1) := by decide +kernel
theorem dX6_opens_111 : decode cX6_opens 111 = .ok (.getfield 97, 3) := by decide +kernel
theorem dX6_opens_114 : decode cX6_opens 114 = .ok (.iconst 5, 1) := by decide +kernel
theorem dX6_opens_115 : decode cX6_opens 115 = .ok (.if_icmp .ge 81, 3) := by decide +kernel
theorem dX6_opens_118 : decode cX6_opens 118 = .ok (.iload 8, 2) := by decide +kernel
theorem dX6_opens_120 : decode cX6_opens 120 = .ok (.ifCond .lt 15, 3) := by decide +kernel
theorem dX6_opens_123 : decode cX6_opens 123 = .ok (.aload_n 0, 1) := by decide +kernel
theorem dX6_opens_124 : decode cX6_opens 124 = .ok (.iload 8, 2) := by decide +kernel
theorem dX6_opens_126 : decode cX6_opens 126 = .ok (.iload 7, 2) := by decide +kernel
theorem dX6_opens_128 : decode cX6_opens 128 = .ok (.invokevirtual 226, 3) := by decide +kernel
theorem dX6_opens_131 : decode cX6_opens 131 = .ok (.iload_n 3, 1) := by decide +kernel
theorem dX6_opens_132 : decode cX6_opens 132 = .ok (.if_icmp .le 64, 3) := by decide +kernel
theorem dX6_opens_135 : decode cX6_opens 135 = .ok (.aload_n 0, 1) := by decide +kernel
theorem dX6_opens_136 : decode cX6_opens 136 = .ok (.getfield 7, 3) := by decide +kernel
theorem dX6_opens_139 : decode cX6_opens 139 = .ok (.aload_n 0, 1) := by decide +kernel
theorem dX6_opens_140 : decode cX6_opens 140 = .ok (.getfield 97, 3) := by decide +kernel
theorem dX6_opens_143 : decode cX6_opens 143 = .ok (.bipush 6, 2) := by decide +kernel
theorem dX6_opens_145 : decode cX6_opens 145 = .ok (.iastore, 1) := by decide +kernel
theorem dX6_opens_146 : decode cX6_opens 146 = .ok (.aload_n 0, 1) := by decide +kernel
theorem dX6_opens_147 : decode cX6_opens 147 = .ok (.getfield 13, 3) := by decide +kernel
theorem dX6_opens_150 : decode cX6_opens 150 = .ok (.aload_n 0, 1) := by decide +kernel
theorem dX6_opens_151 : decode cX6_opens 151 = .ok (.getfield 97, 3) := by decide +kernel
theorem dX6_opens_154 : decode cX6_opens 154 = .ok (.iconst 0, 1) := by decide +kernel
theorem dX6_opens_155 : decode cX6_opens 155 = .ok (.iastore, 1) := by decide +kernel
theorem dX6_opens_156 : decode cX6_opens 156 = .ok (.aload_n 0, 1) := by decide +kernel
theorem dX6_opens_157 : decode cX6_opens 157 = .ok (.getfield 16, 3) := by decide +kernel
theorem dX6_opens_160 : decode cX6_opens 160 = .ok (.aload_n 0, 1) := by decide +kernel
theorem dX6_opens_161 : decode cX6_opens 161 = .ok (.getfield 97, 3) := by decide +kernel
theorem dX6_opens_164 : decode cX6_opens 164 = .ok (.iconst 0, 1) := by decide +kernel
theorem dX6_opens_165 : decode cX6_opens 165 = .ok (.iastore, 1) := by decide +kernel
theorem dX6_opens_166 : decode cX6_opens 166 = .ok (.aload_n 0, 1) := by decide +kernel
theorem dX6_opens_167 : decode cX6_opens 167 = .ok (.getfield 19, 3) := by decide +kernel
theorem dX6_opens_170 : decode cX6_opens 170 = .ok (.aload_n 0, 1) := by decide +kernel
theorem dX6_opens_171 : decode cX6_opens 171 = .ok (.getfield 97, 3) := by decide +kernel
theorem dX6_opens_174 : decode cX6_opens 174 = .ok (.iconst 0, 1) := by decide +kernel
theorem dX6_opens_175 : decode cX6_opens 175 = .ok (.iastore, 1) := by decide +kernel
theorem dX6_opens_176 : decode cX6_opens 176 = .ok (.aload_n 0, 1) := by decide +kernel
theorem dX6_opens_177 : decode cX6_opens 177 = .ok (.getfield 22, 3) := by decide +kernel
theorem dX6_opens_180 : decode cX6_opens 180 = .ok (.aload_n 0, 1) := by decide +kernel
theorem dX6_opens_181 : decode cX6_opens 181 = .ok (.getfield 97, 3) := by decide +kernel
theorem dX6_opens_184 : decode cX6_opens 184 = .ok (.iconst 0, 1) := by decide +kernel
theorem dX6_opens_185 : decode cX6_opens 185 = .ok (.iastore, 1) := by decide +kernel
theorem dX6_opens_186 : decode cX6_opens 186 = .ok (.aload_n 0, 1) := by decide +kernel
theorem dX6_opens_187 : decode cX6_opens 187 = .ok (.dup, 1) := by decide +kernel
theorem dX6_opens_188 : decode cX6_opens 188 = .ok (.getfield 97, 3) := by decide +kernel
theorem dX6_opens_191 : decode cX6_opens 191 = .ok (.iconst 1, 1) := by decide +kernel
theorem dX6_opens_192 : decode cX6_opens 192 = .ok (.iadd, 1) := by decide +kernel
theorem dX6_opens_193 : decode cX6_opens 193 = .ok (.putfield 97, 3) := by decide +kernel
theorem dX6_opens_196 : decode cX6_opens 196 = .ok (.aload_n 0, 1) := by decide +kernel
theorem dX6_opens_197 : decode cX6_opens 197 = .ok (.invokevirtual 234, 3) := by decide +kernel
theorem dX6_opens_200 : decode cX6_opens 200 = .ok (.istore 9, 2) := by decide +kernel
theorem dX6_opens_202 : decode cX6_opens 202 = .ok (.iload 9, 2) := by decide +kernel
theorem dX6_opens_204 : decode cX6_opens 204 = .ok (.ifCond .lt 11, 3) := by decide +kernel
theorem dX6_opens_207 : decode cX6_opens 207 = .ok (.aload_n 0, 1) := by decide +kernel
theorem dX6_opens_208 : decode cX6_opens 208 = .ok (.iload 9, 2) := by decide +kernel
theorem dX6_opens_210 : decode cX6_opens 210 = .ok (.iload 7, 2) := by decide +kernel
theorem dX6_opens_212 : decode cX6_opens 212 = .ok (.invokevirtual 185, 3) := by decide +kernel
theorem dX6_opens_215 : decode cX6_opens 215 = .ok (.iinc 6 1, 3) := by decide +kernel
theorem dX6_opens_218 : decode cX6_opens 218 = .ok (.goto (-157), 3) := by decide +kernel
theorem dX6_opens_221 : decode cX6_opens 221 = .ok (.aload_n 0, 1) := by decide +kernel
theorem dX6_opens_222 : decode cX6_opens 222 = .ok (.getfield 97, 3) := by decide +kernel
theorem dX6_opens_225 : decode cX6_opens 225 = .ok (.iload 5, 2) := by decide +kernel
theorem dX6_opens_227 : decode cX6_opens 227 = .ok (.isub, 1) := by decide +kernel
theorem dX6_opens_228 : decode cX6_opens 228 = .ok (.istore 6, 2) := by decide +kernel
theorem dX6_opens_230 : decode cX6_opens 230 = .ok (.aload_n 0, 1) := by decide +kernel
theorem dX6_opens_231 : decode cX6_opens 231 = .ok (.invokevirtual 209, 3) := by decide +kernel
theorem dX6_opens_234 : decode cX6_opens 234 = .ok (.iload 6, 2) := by decide +kernel
theorem dX6_opens_236 : decode cX6_opens 236 = .ok (.ireturn, 1) := by decide +kernel
theorem dX6_bySorts_0 : decode cX6_bySorts 0 = .ok (.aload_n 0, 1) := by decide +kernel
theorem dX6_bySorts_1 : decode cX6_bySorts 1 = .ok (.iconst 0, 1) := by decide +kernel
theorem dX6_bySorts_2 : decode cX6_bySorts 2 = .ok (.putfield 93, 3) := by decide +kernel
theorem dX6_bySorts_5 : decode cX6_bySorts 5 = .ok (.iload_n 2, 1) := by decide +kernel
theorem dX6_bySorts_6 : decode cX6_bySorts 6 = .ok (.i2l, 1) := by decide +kernel
theorem dX6_bySorts_7 : decode cX6_bySorts 7 = .ok (.lconst 0, 1) := by decide +kernel
theorem dX6_bySorts_8 : decode cX6_bySorts 8 = .ok (.lconst 1, 1) := by decide +kernel
theorem dX6_bySorts_9 : decode cX6_bySorts 9 = .ok (.invokestatic 100, 3) := by decide +kernel
theorem dX6_bySorts_12 : decode cX6_bySorts 12 = .ok (.ifCond .ne 7, 3) := by decide +kernel
theorem dX6_bySorts_15 : decode cX6_bySorts 15 = .ok (.iconst (-1), 1) := by decide +kernel
theorem dX6_bySorts_16 : decode cX6_bySorts 16 = .ok (.goto 8, 3) := by decide +kernel
theorem dX6_bySorts_19 : decode cX6_bySorts 19 = .ok (.aload_n 0, 1) := by decide +kernel
theorem dX6_bySorts_20 : decode cX6_bySorts 20 = .ok (.iload_n 1, 1) := by decide +kernel
theorem dX6_bySorts_21 : decode cX6_bySorts 21 = .ok (.invokevirtual 289, 3) := by decide +kernel
theorem dX6_bySorts_24 : decode cX6_bySorts 24 = .ok (.istore_n 3, 1) := by decide +kernel
theorem dX6_bySorts_25 : decode cX6_bySorts 25 = .ok (.iload_n 3, 1) := by decide +kernel
theorem dX6_bySorts_26 : decode cX6_bySorts 26 = .ok (.ifCond .ge 5, 3) := by decide +kernel
theorem dX6_bySorts_29 : decode cX6_bySorts 29 = .ok (.iload_n 3, 1) := by decide +kernel
theorem dX6_bySorts_30 : decode cX6_bySorts 30 = .ok (.ireturn, 1) := by decide +kernel
theorem dX6_bySorts_31 : decode cX6_bySorts 31 = .ok (.bipush (-4), 2) := by decide +kernel
theorem dX6_bySorts_33 : decode cX6_bySorts 33 = .ok (.istore 4, 2) := by decide +kernel
theorem dX6_bySorts_35 : decode cX6_bySorts 35 = .ok (.bipush (-4), 2) := by decide +kernel
theorem dX6_bySorts_37 : decode cX6_bySorts 37 = .ok (.istore 5, 2) := by decide +kernel
theorem dX6_bySorts_39 : decode cX6_bySorts 39 = .ok (.iconst 0, 1) := by decide +kernel
theorem dX6_bySorts_40 : decode cX6_bySorts 40 = .ok (.istore 6, 2) := by decide +kernel
theorem dX6_bySorts_42 : decode cX6_bySorts 42 = .ok (.iload 6, 2) := by decide +kernel
theorem dX6_bySorts_44 : decode cX6_bySorts 44 = .ok (.sipush 5000, 3) := by decide +kernel
theorem dX6_bySorts_47 : decode cX6_bySorts 47 = .ok (.if_icmp .ge 207, 3) := by decide +kernel
theorem dX6_bySorts_50 : decode cX6_bySorts 50 = .ok (.iload 6, 2) := by decide +kernel
theorem dX6_bySorts_52 : decode cX6_bySorts 52 = .ok (.bipush 10, 2) := by decide +kernel
theorem dX6_bySorts_54 : decode cX6_bySorts 54 = .ok (.irem, 1) := by decide +kernel
theorem dX6_bySorts_55 : decode cX6_bySorts 55 = .ok (.aload_n 0, 1) := by decide +kernel
theorem dX6_bySorts_56 : decode cX6_bySorts 56 = .ok (.getfield 97, 3) := by decide +kernel
theorem dX6_bySorts_59 : decode cX6_bySorts 59 = .ok (.if_icmp .ge 50, 3) := by decide +kernel
theorem dX6_bySorts_62 : decode cX6_bySorts 62 = .ok (.iload 6, 2) := by decide +kernel
theorem dX6_bySorts_64 : decode cX6_bySorts 64 = .ok (.bipush 10, 2) := by decide +kernel
theorem dX6_bySorts_66 : decode cX6_bySorts 66 = .ok (.idiv, 1) := by decide +kernel
theorem dX6_bySorts_67 : decode cX6_bySorts 67 = .ok (.bipush 10, 2) := by decide +kernel
theorem dX6_bySorts_69 : decode cX6_bySorts 69 = .ok (.irem, 1) := by decide +kernel
theorem dX6_bySorts_70 : decode cX6_bySorts 70 = .ok (.aload_n 0, 1) := by decide +kernel
theorem dX6_bySorts_71 : decode cX6_bySorts 71 = .ok (.getfield 97, 3) := by decide +kernel
theorem dX6_bySorts_74 : decode cX6_bySorts 74 = .ok (.if_icmp .ge 35, 3) := by decide +kernel
theorem dX6_bySorts_77 : decode cX6_bySorts 77 = .ok (.iload 6, 2) := by decide +kernel
theorem dX6_bySorts_79 : decode cX6_bySorts 79 = .ok (.bipush 100, 2) := by decide +kernel
theorem dX6_bySorts_81 : decode cX6_bySorts 81 = .ok (.idiv, 1) := by decide +kernel
theorem dX6_bySorts_82 : decode cX6_bySorts 82 = .ok (.bipush 10, 2) := by decide +kernel
theorem dX6_bySorts_84 : decode cX6_bySorts 84 = .ok (.irem, 1) := by decide +kernel
theorem dX6_bySorts_85 : decode cX6_bySorts 85 = .ok (.aload_n 0, 1) := by decide +kernel
theorem dX6_bySorts_86 : decode cX6_bySorts 86 = .ok (.getfield 97, 3) := by decide +kernel
theorem dX6_bySorts_89 : decode cX6_bySorts 89 = .ok (.if_icmp .ge 20, 3) := by decide +kernel
theorem dX6_bySorts_92 : decode cX6_bySorts 92 = .ok (.iload 6, 2) := by decide +kernel
theorem dX6_bySorts_94 : decode cX6_bySorts 94 = .ok (.sipush 1000, 3) := by decide +kernel
theorem dX6_bySorts_97 : decode cX6_bySorts 97 = .ok (.idiv, 1) := by decide +kernel
theorem dX6_bySorts_98 : decode cX6_bySorts 98 = .ok (.aload_n 0, 1) := by decide +kernel
theorem dX6_bySorts_99 : decode cX6_bySorts 99 = .ok (.getfield 97, 3) := by decide +kernel
theorem dX6_bySorts_102 : decode cX6_bySorts 102 = .ok (.if_icmp .ge 7, 3) := by decide +kernel
theorem dX6_bySorts_105 : decode cX6_bySorts 105 = .ok (.iconst 1, 1) := by decide +kernel
theorem dX6_bySorts_106 : decode cX6_bySorts 106 = .ok (.goto 4, 3) := by decide +kernel
theorem dX6_bySorts_109 : decode cX6_bySorts 109 = .ok (.iconst 0, 1) := by decide +kernel
theorem dX6_bySorts_110 : decode cX6_bySorts 110 = .ok (.istore 7, 2) := by decide +kernel
theorem dX6_bySorts_112 : decode cX6_bySorts 112 = .ok (.iload 7, 2) := by decide +kernel
theorem dX6_bySorts_114 : decode cX6_bySorts 114 = .ok (.ifCond .eq 134, 3) := by decide +kernel
theorem dX6_bySorts_117 : decode cX6_bySorts 117 = .ok (.aload_n 0, 1) := by decide +kernel
theorem dX6_bySorts_118 : decode cX6_bySorts 118 = .ok (.iconst 1, 1) := by decide +kernel
theorem dX6_bySorts_119 : decode cX6_bySorts 119 = .ok (.invokevirtual 274, 3) := by decide +kernel
theorem dX6_bySorts_122 : decode cX6_bySorts 122 = .ok (.iconst 0, 1) := by decide +kernel
theorem dX6_bySorts_123 : decode cX6_bySorts 123 = .ok (.istore 8, 2) := by decide +kernel
theorem dX6_bySorts_125 : decode cX6_bySorts 125 = .ok (.iconst 0, 1) := by decide +kernel
theorem dX6_bySorts_126 : decode cX6_bySorts 126 = .ok (.istore 9, 2) := by decide +kernel
theorem dX6_bySorts_128 : decode cX6_bySorts 128 = .ok (.iload 9, 2) := by decide +kernel
theorem dX6_bySorts_130 : decode cX6_bySorts 130 = .ok (.aload_n 0, 1) := by decide +kernel
theorem dX6_bySorts_131 : decode cX6_bySorts 131 = .ok (.getfield 83, 3) := by decide +kernel
theorem dX6_bySorts_134 : decode cX6_bySorts 134 = .ok (.iload_n 1, 1) := by decide +kernel
theorem dX6_bySorts_135 : decode cX6_bySorts 135 = .ok (.iaload, 1) := by decide +kernel
theorem dX6_bySorts_136 : decode cX6_bySorts 136 = .ok (.if_icmp .ge 92, 3) := by decide +kernel
theorem dX6_bySorts_139 : decode cX6_bySorts 139 = .ok (.aload_n 0, 1) := by decide +kernel
theorem dX6_bySorts_140 : decode cX6_bySorts 140 = .ok (.getfield 86, 3) := by decide +kernel
theorem dX6_bySorts_143 : decode cX6_bySorts 143 = .ok (.bipush 100, 2) := by decide +kernel
theorem dX6_bySorts_145 : decode cX6_bySorts 145 = .ok (.iload_n 1, 1) := by decide +kernel
theorem dX6_bySorts_146 : decode cX6_bySorts 146 = .ok (.imul, 1) := by decide +kernel
theorem dX6_bySorts_147 : decode cX6_bySorts 147 = .ok (.iload 9, 2) := by decide +kernel
theorem dX6_bySorts_149 : decode cX6_bySorts 149 = .ok (.iadd, 1) := by decide +kernel
theorem dX6_bySorts_150 : decode cX6_bySorts 150 = .ok (.laload, 1) := by decide +kernel
theorem dX6_bySorts_151 : decode cX6_bySorts 151 = .ok (.l2i, 1) := by decide +kernel
theorem dX6_bySorts_152 : decode cX6_bySorts 152 = .ok (.istore 10, 2) := by decide +kernel
theorem dX6_bySorts_154 : decode cX6_bySorts 154 = .ok (.iload 10, 2) := by decide +kernel
theorem dX6_bySorts_156 : decode cX6_bySorts 156 = .ok (.ifCond .ne 11, 3) := by decide +kernel
theorem dX6_bySorts_159 : decode cX6_bySorts 159 = .ok (.iload 6, 2) := by decide +kernel
theorem dX6_bySorts_161 : decode cX6_bySorts 161 = .ok (.bipush 10, 2) := by decide +kernel
theorem dX6_bySorts_163 : decode cX6_bySorts 163 = .ok (.irem, 1) := by decide +kernel
theorem dX6_bySorts_164 : decode cX6_bySorts 164 = .ok (.goto 43, 3) := by decide +kernel
theorem dX6_bySorts_167 : decode cX6_bySorts 167 = .ok (.iload 10, 2) := by decide +kernel
theorem dX6_bySorts_169 : decode cX6_bySorts 169 = .ok (.iconst 1, 1) := by decide +kernel
theorem dX6_bySorts_170 : decode cX6_bySorts 170 = .ok (.if_icmp .ne 14, 3) := by decide +kernel
theorem dX6_bySorts_173 : decode cX6_bySorts 173 = .ok (.iload 6, 2) := by decide +kernel
theorem dX6_bySorts_175 : decode cX6_bySorts 175 = .ok (.bipush 10, 2) := by decide +kernel
theorem dX6_bySorts_177 : decode cX6_bySorts 177 = .ok (.idiv, 1) := by decide +kernel
theorem dX6_bySorts_178 : decode cX6_bySorts 178 = .ok (.bipush 10, 2) := by decide +kernel
theorem dX6_bySorts_180 : decode cX6_bySorts 180 = .ok (.irem, 1) := by decide +kernel
theorem dX6_bySorts_181 : decode cX6_bySorts 181 = .ok (.goto 26, 3) := by decide +kernel
theorem dX6_bySorts_184 : decode cX6_bySorts 184 = .ok (.iload 10, 2) := by decide +kernel
theorem dX6_bySorts_186 : decode cX6_bySorts 186 = .ok (.iconst 2, 1) := by decide +kernel
theorem dX6_bySorts_187 : decode cX6_bySorts 187 = .ok (.if_icmp .ne 14, 3) := by decide +kernel
theorem dX6_bySorts_190 : decode cX6_bySorts 190 = .ok (.iload 6, 2) := by decide +kernel
theorem dX6_bySorts_192 : decode cX6_bySorts 192 = .ok (.bipush 100, 2) := by decide +kernel
theorem dX6_bySorts_194 : decode cX6_bySorts 194 = .ok (.idiv, 1) := by decide +kernel
theorem dX6_bySorts_195 : decode cX6_bySorts 195 = .ok (.bipush 10, 2) := by decide +kernel
theorem dX6_bySorts_197 : decode cX6_bySorts 197 = .ok (.irem, 1) := by decide +kernel
theorem dX6_bySorts_198 : decode cX6_bySorts 198 = .ok (.goto 9, 3) := by decide +kernel
theorem dX6_bySorts_201 : decode cX6_bySorts 201 = .ok (.iload 6, 2) := by decide +kernel
theorem dX6_bySorts_203 : decode cX6_bySorts 203 = .ok (.sipush 1000, 3) := by decide +kernel
theorem dX6_bySorts_206 : decode cX6_bySorts 206 = .ok (.idiv, 1) := by decide +kernel
theorem dX6_bySorts_207 : decode cX6_bySorts 207 = .ok (.istore 11, 2) := by decide +kernel
theorem dX6_bySorts_209 : decode cX6_bySorts 209 = .ok (.iload 8, 2) := by decide +kernel
theorem dX6_bySorts_211 : decode cX6_bySorts 211 = .ok (.aload_n 0, 1) := by decide +kernel
theorem dX6_bySorts_212 : decode cX6_bySorts 212 = .ok (.iload 11, 2) := by decide +kernel
theorem dX6_bySorts_214 : decode cX6_bySorts 214 = .ok (.iload 10, 2) := by decide +kernel
theorem dX6_bySorts_216 : decode cX6_bySorts 216 = .ok (.invokevirtual 281, 3) := by decide +kernel
theorem dX6_bySorts_219 : decode cX6_bySorts 219 = .ok (.iadd, 1) := by decide +kernel
theorem dX6_bySorts_220 : decode cX6_bySorts 220 = .ok (.istore 8, 2) := by decide +kernel
theorem dX6_bySorts_222 : decode cX6_bySorts 222 = .ok (.iinc 9 1, 3) := by decide +kernel
theorem dX6_bySorts_225 : decode cX6_bySorts 225 = .ok (.goto (-97), 3) := by decide +kernel
theorem dX6_bySorts_228 : decode cX6_bySorts 228 = .ok (.iload 4, 2) := by decide +kernel
theorem dX6_bySorts_230 : decode cX6_bySorts 230 = .ok (.ifCond .lt 10, 3) := by decide +kernel
theorem dX6_bySorts_233 : decode cX6_bySorts 233 = .ok (.iload 8, 2) := by decide +kernel
theorem dX6_bySorts_235 : decode cX6_bySorts 235 = .ok (.iload 5, 2) := by decide +kernel
theorem dX6_bySorts_237 : decode cX6_bySorts 237 = .ok (.if_icmp .ge 11, 3) := by decide +kernel
theorem dX6_bySorts_240 : decode cX6_bySorts 240 = .ok (.iload 6, 2) := by decide +kernel
theorem dX6_bySorts_242 : decode cX6_bySorts 242 = .ok (.istore 4, 2) := by decide +kernel
theorem dX6_bySorts_244 : decode cX6_bySorts 244 = .ok (.iload 8, 2) := by decide +kernel
theorem dX6_bySorts_246 : decode cX6_bySorts 246 = .ok (.istore 5, 2) := by decide +kernel
theorem dX6_bySorts_248 : decode cX6_bySorts 248 = .ok (.iinc 6 1, 3) := by decide +kernel
theorem dX6_bySorts_251 : decode cX6_bySorts 251 = .ok (.goto (-209), 3) := by decide +kernel
theorem dX6_bySorts_254 : decode cX6_bySorts 254 = .ok (.iload_n 2, 1) := by decide +kernel
theorem dX6_bySorts_255 : decode cX6_bySorts 255 = .ok (.ifCond .ne 8, 3) := by decide +kernel
theorem dX6_bySorts_258 : decode cX6_bySorts 258 = .ok (.iload 4, 2) := by decide +kernel
theorem dX6_bySorts_260 : decode cX6_bySorts 260 = .ok (.goto 5, 3) := by decide +kernel
theorem dX6_bySorts_263 : decode cX6_bySorts 263 = .ok (.iload 5, 2) := by decide +kernel
theorem dX6_bySorts_265 : decode cX6_bySorts 265 = .ok (.ireturn, 1) := by decide +kernel
theorem dX6_advice_0 : decode cX6_advice 0 = .ok (.aload_n 0, 1) := by decide +kernel
theorem dX6_advice_1 : decode cX6_advice 1 = .ok (.iconst 0, 1) := by decide +kernel
theorem dX6_advice_2 : decode cX6_advice 2 = .ok (.putfield 93, 3) := by decide +kernel
theorem dX6_advice_5 : decode cX6_advice 5 = .ok (.iload_n 1, 1) := by decide +kernel
theorem dX6_advice_6 : decode cX6_advice 6 = .ok (.invokestatic 223, 3) := by decide +kernel
theorem dX6_advice_9 : decode cX6_advice 9 = .ok (.ifCond .eq 15, 3) := by decide +kernel
theorem dX6_advice_12 : decode cX6_advice 12 = .ok (.iload_n 2, 1) := by decide +kernel
theorem dX6_advice_13 : decode cX6_advice 13 = .ok (.i2l, 1) := by decide +kernel
theorem dX6_advice_14 : decode cX6_advice 14 = .ok (.lconst 0, 1) := by decide +kernel
theorem dX6_advice_15 : decode cX6_advice 15 = .ok (.ldc2_w 263, 3) := by decide +kernel
theorem dX6_advice_18 : decode cX6_advice 18 = .ok (.invokestatic 100, 3) := by decide +kernel
theorem dX6_advice_21 : decode cX6_advice 21 = .ok (.ifCond .ne 5, 3) := by decide +kernel
theorem dX6_advice_24 : decode cX6_advice 24 = .ok (.iconst (-1), 1) := by decide +kernel
theorem dX6_advice_25 : decode cX6_advice 25 = .ok (.ireturn, 1) := by decide +kernel
theorem dX6_advice_26 : decode cX6_advice 26 = .ok (.aload_n 0, 1) := by decide +kernel
theorem dX6_advice_27 : decode cX6_advice 27 = .ok (.iload_n 1, 1) := by decide +kernel
theorem dX6_advice_28 : decode cX6_advice 28 = .ok (.invokevirtual 240, 3) := by decide +kernel
theorem dX6_advice_31 : decode cX6_advice 31 = .ok (.istore_n 3, 1) := by decide +kernel
theorem dX6_advice_32 : decode cX6_advice 32 = .ok (.iload_n 3, 1) := by decide +kernel
theorem dX6_advice_33 : decode cX6_advice 33 = .ok (.ifCond .ge 7, 3) := by decide +kernel
theorem dX6_advice_36 : decode cX6_advice 36 = .ok (.iload_n 3, 1) := by decide +kernel
theorem dX6_advice_37 : decode cX6_advice 37 = .ok (.goto 6, 3) := by decide +kernel
theorem dX6_advice_40 : decode cX6_advice 40 = .ok (.iload_n 3, 1) := by decide +kernel
theorem dX6_advice_41 : decode cX6_advice 41 = .ok (.iload_n 2, 1) := by decide +kernel
theorem dX6_advice_42 : decode cX6_advice 42 = .ok (.imul, 1) := by decide +kernel
theorem dX6_advice_43 : decode cX6_advice 43 = .ok (.ireturn, 1) := by decide +kernel
theorem dX6_findNews_0 : decode cX6_findNews 0 = .ok (.aload_n 0, 1) := by decide +kernel
theorem dX6_findNews_1 : decode cX6_findNews 1 = .ok (.getfield 65, 3) := by decide +kernel
theorem dX6_findNews_4 : decode cX6_findNews 4 = .ok (.iconst 0, 1) := by decide +kernel
theorem dX6_findNews_5 : decode cX6_findNews 5 = .ok (.iload_n 1, 1) := by decide +kernel
theorem dX6_findNews_6 : decode cX6_findNews 6 = .ok (.iastore, 1) := by decide +kernel
theorem dX6_findNews_7 : decode cX6_findNews 7 = .ok (.iconst 1, 1) := by decide +kernel
theorem dX6_findNews_8 : decode cX6_findNews 8 = .ok (.istore 4, 2) := by decide +kernel
theorem dX6_findNews_10 : decode cX6_findNews 10 = .ok (.iload 4, 2) := by decide +kernel
theorem dX6_findNews_12 : decode cX6_findNews 12 = .ok (.bipush 60, 2) := by decide +kernel
theorem dX6_findNews_14 : decode cX6_findNews 14 = .ok (.if_icmp .gt 93, 3) := by decide +kernel
theorem dX6_findNews_17 : decode cX6_findNews 17 = .ok (.iload 4, 2) := by decide +kernel
theorem dX6_findNews_19 : decode cX6_findNews 19 = .ok (.iconst 1, 1) := by decide +kernel
theorem dX6_findNews_20 : decode cX6_findNews 20 = .ok (.isub, 1) := by decide +kernel
theorem dX6_findNews_21 : decode cX6_findNews 21 = .ok (.iload_n 2, 1) := by decide +kernel
theorem dX6_findNews_22 : decode cX6_findNews 22 = .ok (.isub, 1) := by decide +kernel
theorem dX6_findNews_23 : decode cX6_findNews 23 = .ok (.istore 5, 2) := by decide +kernel
theorem dX6_findNews_25 : decode cX6_findNews 25 = .ok (.aload_n 0, 1) := by decide +kernel
theorem dX6_findNews_26 : decode cX6_findNews 26 = .ok (.getfield 65, 3) := by decide +kernel
theorem dX6_findNews_29 : decode cX6_findNews 29 = .ok (.iload 5, 2) := by decide +kernel
theorem dX6_findNews_31 : decode cX6_findNews 31 = .ok (.ifCond .ge 7, 3) := by decide +kernel
theorem dX6_findNews_34 : decode cX6_findNews 34 = .ok (.iconst 0, 1) := by decide +kernel
theorem dX6_findNews_35 : decode cX6_findNews 35 = .ok (.goto 5, 3) := by decide +kernel
theorem dX6_findNews_38 : decode cX6_findNews 38 = .ok (.iload 5, 2) := by decide +kernel
theorem dX6_findNews_40 : decode cX6_findNews 40 = .ok (.iaload, 1) := by decide +kernel
theorem dX6_findNews_41 : decode cX6_findNews 41 = .ok (.iload_n 3, 1) := by decide +kernel
theorem dX6_findNews_42 : decode cX6_findNews 42 = .ok (.imul, 1) := by decide +kernel
theorem dX6_findNews_43 : decode cX6_findNews 43 = .ok (.bipush 10, 2) := by decide +kernel
theorem dX6_findNews_45 : decode cX6_findNews 45 = .ok (.idiv, 1) := by decide +kernel
theorem dX6_findNews_46 : decode cX6_findNews 46 = .ok (.istore 6, 2) := by decide +kernel
theorem dX6_findNews_48 : decode cX6_findNews 48 = .ok (.aload_n 0, 1) := by decide +kernel
theorem dX6_findNews_49 : decode cX6_findNews 49 = .ok (.getfield 65, 3) := by decide +kernel
theorem dX6_findNews_52 : decode cX6_findNews 52 = .ok (.iload 4, 2) := by decide +kernel
theorem dX6_findNews_54 : decode cX6_findNews 54 = .ok (.iconst 1, 1) := by decide +kernel
theorem dX6_findNews_55 : decode cX6_findNews 55 = .ok (.isub, 1) := by decide +kernel
theorem dX6_findNews_56 : decode cX6_findNews 56 = .ok (.iaload, 1) := by decide +kernel
theorem dX6_findNews_57 : decode cX6_findNews 57 = .ok (.iconst 2, 1) := by decide +kernel
theorem dX6_findNews_58 : decode cX6_findNews 58 = .ok (.iload 6, 2) := by decide +kernel
theorem dX6_findNews_60 : decode cX6_findNews 60 = .ok (.imul, 1) := by decide +kernel
theorem dX6_findNews_61 : decode cX6_findNews 61 = .ok (.isub, 1) := by decide +kernel
theorem dX6_findNews_62 : decode cX6_findNews 62 = .ok (.istore 7, 2) := by decide +kernel
theorem dX6_findNews_64 : decode cX6_findNews 64 = .ok (.aload_n 0, 1) := by decide +kernel
theorem dX6_findNews_65 : decode cX6_findNews 65 = .ok (.getfield 65, 3) := by decide +kernel
theorem dX6_findNews_68 : decode cX6_findNews 68 = .ok (.iload 4, 2) := by decide +kernel
theorem dX6_findNews_70 : decode cX6_findNews 70 = .ok (.iload 7, 2) := by decide +kernel
theorem dX6_findNews_72 : decode cX6_findNews 72 = .ok (.sipush 9999, 3) := by decide +kernel
theorem dX6_findNews_75 : decode cX6_findNews 75 = .ok (.if_icmp .le 9, 3) := by decide +kernel
theorem dX6_findNews_78 : decode cX6_findNews 78 = .ok (.sipush 9999, 3) := by decide +kernel
theorem dX6_findNews_81 : decode cX6_findNews 81 = .ok (.goto 19, 3) := by decide +kernel
theorem dX6_findNews_84 : decode cX6_findNews 84 = .ok (.iload 7, 2) := by decide +kernel
theorem dX6_findNews_86 : decode cX6_findNews 86 = .ok (.sipush (-9999), 3) := by decide +kernel
theorem dX6_findNews_89 : decode cX6_findNews 89 = .ok (.if_icmp .ge 9, 3) := by decide +kernel
theorem dX6_findNews_92 : decode cX6_findNews 92 = .ok (.sipush (-9999), 3) := by decide +kernel
theorem dX6_findNews_95 : decode cX6_findNews 95 = .ok (.goto 5, 3) := by decide +kernel
theorem dX6_findNews_98 : decode cX6_findNews 98 = .ok (.iload 7, 2) := by decide +kernel
theorem dX6_findNews_100 : decode cX6_findNews 100 = .ok (.iastore, 1) := by decide +kernel
theorem dX6_findNews_101 : decode cX6_findNews 101 = .ok (.iinc 4 1, 3) := by decide +kernel
theorem dX6_findNews_104 : decode cX6_findNews 104 = .ok (.goto (-94), 3) := by decide +kernel
theorem dX6_findNews_107 : decode cX6_findNews 107 = .ok (.return_, 1) := by decide +kernel
theorem dX6_isNews_0 : decode cX6_isNews 0 = .ok (.iload_n 0, 1) := by decide +kernel
theorem dX6_isNews_1 : decode cX6_isNews 1 = .ok (.i2l, 1) := by decide +kernel
theorem dX6_isNews_2 : decode cX6_isNews 2 = .ok (.ldc2_w 295, 3) := by decide +kernel
theorem dX6_isNews_5 : decode cX6_isNews 5 = .ok (.ldc2_w 263, 3) := by decide +kernel
theorem dX6_isNews_8 : decode cX6_isNews 8 = .ok (.invokestatic 100, 3) := by decide +kernel
theorem dX6_isNews_11 : decode cX6_isNews 11 = .ok (.ifCond .eq 31, 3) := by decide +kernel
theorem dX6_isNews_14 : decode cX6_isNews 14 = .ok (.iload_n 1, 1) := by decide +kernel
theorem dX6_isNews_15 : decode cX6_isNews 15 = .ok (.i2l, 1) := by decide +kernel
theorem dX6_isNews_16 : decode cX6_isNews 16 = .ok (.lconst 0, 1) := by decide +kernel
theorem dX6_isNews_17 : decode cX6_isNews 17 = .ok (.ldc2_w 297, 3) := by decide +kernel
theorem dX6_isNews_20 : decode cX6_isNews 20 = .ok (.invokestatic 100, 3) := by decide +kernel
theorem dX6_isNews_23 : decode cX6_isNews 23 = .ok (.ifCond .eq 19, 3) := by decide +kernel
theorem dX6_isNews_26 : decode cX6_isNews 26 = .ok (.iload_n 2, 1) := by decide +kernel
theorem dX6_isNews_27 : decode cX6_isNews 27 = .ok (.i2l, 1) := by decide +kernel
theorem dX6_isNews_28 : decode cX6_isNews 28 = .ok (.lconst 0, 1) := by decide +kernel
theorem dX6_isNews_29 : decode cX6_isNews 29 = .ok (.ldc2_w 299, 3) := by decide +kernel
theorem dX6_isNews_32 : decode cX6_isNews 32 = .ok (.invokestatic 100, 3) := by decide +kernel
theorem dX6_isNews_35 : decode cX6_isNews 35 = .ok (.ifCond .eq 7, 3) := by decide +kernel
theorem dX6_isNews_38 : decode cX6_isNews 38 = .ok (.iconst 1, 1) := by decide +kernel
theorem dX6_isNews_39 : decode cX6_isNews 39 = .ok (.goto 4, 3) := by decide +kernel
theorem dX6_isNews_42 : decode cX6_isNews 42 = .ok (.iconst 0, 1) := by decide +kernel
theorem dX6_isNews_43 : decode cX6_isNews 43 = .ok (.ireturn, 1) := by decide +kernel
theorem dX6_news_0 : decode cX6_news 0 = .ok (.aload_n 0, 1) := by decide +kernel
theorem dX6_news_1 : decode cX6_news 1 = .ok (.iconst 0, 1) := by decide +kernel
theorem dX6_news_2 : decode cX6_news 2 = .ok (.putfield 93, 3) := by decide +kernel
theorem dX6_news_5 : decode cX6_news 5 = .ok (.iload_n 1, 1) := by decide +kernel
theorem dX6_news_6 : decode cX6_news 6 = .ok (.iload_n 2, 1) := by decide +kernel
theorem dX6_news_7 : decode cX6_news 7 = .ok (.iload_n 3, 1) := by decide +kernel
theorem dX6_news_8 : decode cX6_news 8 = .ok (.invokestatic 301, 3) := by decide +kernel
theorem dX6_news_11 : decode cX6_news 11 = .ok (.ifCond .eq 16, 3) := by decide +kernel
theorem dX6_news_14 : decode cX6_news 14 = .ok (.iload 4, 2) := by decide +kernel
theorem dX6_news_16 : decode cX6_news 16 = .ok (.i2l, 1) := by decide +kernel
theorem dX6_news_17 : decode cX6_news 17 = .ok (.lconst 0, 1) := by decide +kernel
theorem dX6_news_18 : decode cX6_news 18 = .ok (.ldc2_w 229, 3) := by decide +kernel
theorem dX6_news_21 : decode cX6_news 21 = .ok (.invokestatic 100, 3) := by decide +kernel
theorem dX6_news_24 : decode cX6_news 24 = .ok (.ifCond .ne 7, 3) := by decide +kernel
theorem dX6_news_27 : decode cX6_news 27 = .ok (.ldc_w 284, 3) := by decide +kernel
theorem dX6_news_30 : decode cX6_news 30 = .ok (.ireturn, 1) := by decide +kernel
theorem dX6_news_31 : decode cX6_news 31 = .ok (.aload_n 0, 1) := by decide +kernel
theorem dX6_news_32 : decode cX6_news 32 = .ok (.iload_n 1, 1) := by decide +kernel
theorem dX6_news_33 : decode cX6_news 33 = .ok (.iload_n 2, 1) := by decide +kernel
theorem dX6_news_34 : decode cX6_news 34 = .ok (.iload_n 3, 1) := by decide +kernel
theorem dX6_news_35 : decode cX6_news 35 = .ok (.invokevirtual 305, 3) := by decide +kernel
theorem dX6_news_38 : decode cX6_news 38 = .ok (.aload_n 0, 1) := by decide +kernel
theorem dX6_news_39 : decode cX6_news 39 = .ok (.getfield 65, 3) := by decide +kernel
theorem dX6_news_42 : decode cX6_news 42 = .ok (.iload 4, 2) := by decide +kernel
theorem dX6_news_44 : decode cX6_news 44 = .ok (.iaload, 1) := by decide +kernel
theorem dX6_news_45 : decode cX6_news 45 = .ok (.ireturn, 1) := by decide +kernel
theorem dX6_greatest_0 : decode cX6_greatest 0 = .ok (.iconst 0, 1) := by decide +kernel
theorem dX6_greatest_1 : decode cX6_greatest 1 = .ok (.istore_n 3, 1) := by decide +kernel
theorem dX6_greatest_2 : decode cX6_greatest 2 = .ok (.iload_n 1, 1) := by decide +kernel
