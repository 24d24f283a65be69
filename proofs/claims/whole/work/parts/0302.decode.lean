theorem dX5_opens_46 : decode cX5_opens 46 = .ok (.getfield 16, 3) := by decide +kernel
theorem dX5_opens_49 : decode cX5_opens 49 = .ok (.aload_n 0, 1) := by decide +kernel
theorem dX5_opens_50 : decode cX5_opens 50 = .ok (.getfield 10, 3) := by decide +kernel
theorem dX5_opens_53 : decode cX5_opens 53 = .ok (.invokevirtual 59, 3) := by decide +kernel
theorem dX5_opens_56 : decode cX5_opens 56 = .ok (.iconst 0, 1) := by decide +kernel
theorem dX5_opens_57 : decode cX5_opens 57 = .ok (.istore 6, 2) := by decide +kernel
theorem dX5_opens_59 : decode cX5_opens 59 = .ok (.iconst 0, 1) := by decide +kernel
theorem dX5_opens_60 : decode cX5_opens 60 = .ok (.istore 7, 2) := by decide +kernel
theorem dX5_opens_62 : decode cX5_opens 62 = .ok (.iload 7, 2) := by decide +kernel
theorem dX5_opens_64 : decode cX5_opens 64 = .ok (.aload 5, 2) := by decide +kernel
theorem dX5_opens_66 : decode cX5_opens 66 = .ok (.getfield 63, 3) := by decide +kernel
theorem dX5_opens_69 : decode cX5_opens 69 = .ok (.if_icmp .ge 93, 3) := by decide +kernel
theorem dX5_opens_72 : decode cX5_opens 72 = .ok (.iload 7, 2) := by decide +kernel
theorem dX5_opens_74 : decode cX5_opens 74 = .ok (.ifCond .le 12, 3) := by decide +kernel
theorem dX5_opens_77 : decode cX5_opens 77 = .ok (.aload_n 0, 1) := by decide +kernel
theorem dX5_opens_78 : decode cX5_opens 78 = .ok (.getfield 16, 3) := by decide +kernel
theorem dX5_opens_81 : decode cX5_opens 81 = .ok (.iload_n 2, 1) := by decide +kernel
theorem dX5_opens_82 : decode cX5_opens 82 = .ok (.invokevirtual 136, 3) := by decide +kernel
theorem dX5_opens_85 : decode cX5_opens 85 = .ok (.pop, 1) := by decide +kernel
theorem dX5_opens_86 : decode cX5_opens 86 = .ok (.aload_n 0, 1) := by decide +kernel
theorem dX5_opens_87 : decode cX5_opens 87 = .ok (.getfield 16, 3) := by decide +kernel
theorem dX5_opens_90 : decode cX5_opens 90 = .ok (.aload 5, 2) := by decide +kernel
theorem dX5_opens_92 : decode cX5_opens 92 = .ok (.getfield 67, 3) := by decide +kernel
theorem dX5_opens_95 : decode cX5_opens 95 = .ok (.iload 7, 2) := by decide +kernel
theorem dX5_opens_97 : decode cX5_opens 97 = .ok (.iaload, 1) := by decide +kernel
theorem dX5_opens_98 : decode cX5_opens 98 = .ok (.invokevirtual 214, 3) := by decide +kernel
theorem dX5_opens_101 : decode cX5_opens 101 = .ok (.iload_n 3, 1) := by decide +kernel
theorem dX5_opens_102 : decode cX5_opens 102 = .ok (.if_icmp .le 19, 3) := by decide +kernel
theorem dX5_opens_105 : decode cX5_opens 105 = .ok (.aload_n 0, 1) := by decide +kernel
theorem dX5_opens_106 : decode cX5_opens 106 = .ok (.getfield 16, 3) := by decide +kernel
theorem dX5_opens_109 : decode cX5_opens 109 = .ok (.bipush 6, 2) := by decide +kernel
theorem dX5_opens_111 : decode cX5_opens 111 = .ok (.iconst 0, 1) := by decide +kernel
theorem dX5_opens_112 : decode cX5_opens 112 = .ok (.invokevirtual 217, 3) := by decide +kernel
theorem dX5_opens_115 : decode cX5_opens 115 = .ok (.ifCond .eq 6, 3) := by decide +kernel
theorem dX5_opens_118 : decode cX5_opens 118 = .ok (.iinc 6 1, 3) := by decide +kernel
theorem dX5_opens_121 : decode cX5_opens 121 = .ok (.aload_n 0, 1) := by decide +kernel
theorem dX5_opens_122 : decode cX5_opens 122 = .ok (.getfield 16, 3) := by decide +kernel
theorem dX5_opens_125 : decode cX5_opens 125 = .ok (.invokevirtual 139, 3) := by decide +kernel
theorem dX5_opens_128 : decode cX5_opens 128 = .ok (.istore 8, 2) := by decide +kernel
theorem dX5_opens_130 : decode cX5_opens 130 = .ok (.iload 8, 2) := by decide +kernel
theorem dX5_opens_132 : decode cX5_opens 132 = .ok (.ifCond .lt 24, 3) := by decide +kernel
theorem dX5_opens_135 : decode cX5_opens 135 = .ok (.aload_n 0, 1) := by decide +kernel
theorem dX5_opens_136 : decode cX5_opens 136 = .ok (.getfield 16, 3) := by decide +kernel
theorem dX5_opens_139 : decode cX5_opens 139 = .ok (.getfield 78, 3) := by decide +kernel
theorem dX5_opens_142 : decode cX5_opens 142 = .ok (.iload 8, 2) := by decide +kernel
theorem dX5_opens_144 : decode cX5_opens 144 = .ok (.aaload, 1) := by decide +kernel
theorem dX5_opens_145 : decode cX5_opens 145 = .ok (.aload 5, 2) := by decide +kernel
theorem dX5_opens_147 : decode cX5_opens 147 = .ok (.getfield 67, 3) := by decide +kernel
theorem dX5_opens_150 : decode cX5_opens 150 = .ok (.iload 7, 2) := by decide +kernel
theorem dX5_opens_152 : decode cX5_opens 152 = .ok (.iaload, 1) := by decide +kernel
theorem dX5_opens_153 : decode cX5_opens 153 = .ok (.invokevirtual 132, 3) := by decide +kernel
theorem dX5_opens_156 : decode cX5_opens 156 = .ok (.iinc 7 1, 3) := by decide +kernel
theorem dX5_opens_159 : decode cX5_opens 159 = .ok (.goto (-97), 3) := by decide +kernel
theorem dX5_opens_162 : decode cX5_opens 162 = .ok (.iload 6, 2) := by decide +kernel
theorem dX5_opens_164 : decode cX5_opens 164 = .ok (.ireturn, 1) := by decide +kernel
theorem dX5_bySorts_0 : decode cX5_bySorts 0 = .ok (.iload_n 2, 1) := by decide +kernel
theorem dX5_bySorts_1 : decode cX5_bySorts 1 = .ok (.ifCond .lt 8, 3) := by decide +kernel
theorem dX5_bySorts_4 : decode cX5_bySorts 4 = .ok (.iload_n 2, 1) := by decide +kernel
theorem dX5_bySorts_5 : decode cX5_bySorts 5 = .ok (.iconst 1, 1) := by decide +kernel
theorem dX5_bySorts_6 : decode cX5_bySorts 6 = .ok (.if_icmp .le 5, 3) := by decide +kernel
theorem dX5_bySorts_9 : decode cX5_bySorts 9 = .ok (.iconst (-1), 1) := by decide +kernel
theorem dX5_bySorts_10 : decode cX5_bySorts 10 = .ok (.ireturn, 1) := by decide +kernel
theorem dX5_bySorts_11 : decode cX5_bySorts 11 = .ok (.aload_n 0, 1) := by decide +kernel
theorem dX5_bySorts_12 : decode cX5_bySorts 12 = .ok (.iload_n 1, 1) := by decide +kernel
theorem dX5_bySorts_13 : decode cX5_bySorts 13 = .ok (.invokevirtual 208, 3) := by decide +kernel
theorem dX5_bySorts_16 : decode cX5_bySorts 16 = .ok (.istore_n 3, 1) := by decide +kernel
theorem dX5_bySorts_17 : decode cX5_bySorts 17 = .ok (.iload_n 3, 1) := by decide +kernel
theorem dX5_bySorts_18 : decode cX5_bySorts 18 = .ok (.ifCond .eq 5, 3) := by decide +kernel
theorem dX5_bySorts_21 : decode cX5_bySorts 21 = .ok (.iload_n 3, 1) := by decide +kernel
theorem dX5_bySorts_22 : decode cX5_bySorts 22 = .ok (.ireturn, 1) := by decide +kernel
theorem dX5_bySorts_23 : decode cX5_bySorts 23 = .ok (.aload_n 0, 1) := by decide +kernel
theorem dX5_bySorts_24 : decode cX5_bySorts 24 = .ok (.getfield 10, 3) := by decide +kernel
theorem dX5_bySorts_27 : decode cX5_bySorts 27 = .ok (.getfield 193, 3) := by decide +kernel
theorem dX5_bySorts_30 : decode cX5_bySorts 30 = .ok (.ifCond .ne 6, 3) := by decide +kernel
theorem dX5_bySorts_33 : decode cX5_bySorts 33 = .ok (.bipush (-4), 2) := by decide +kernel
theorem dX5_bySorts_35 : decode cX5_bySorts 35 = .ok (.ireturn, 1) := by decide +kernel
theorem dX5_bySorts_36 : decode cX5_bySorts 36 = .ok (.aload_n 0, 1) := by decide +kernel
theorem dX5_bySorts_37 : decode cX5_bySorts 37 = .ok (.getfield 10, 3) := by decide +kernel
theorem dX5_bySorts_40 : decode cX5_bySorts 40 = .ok (.getfield 193, 3) := by decide +kernel
theorem dX5_bySorts_43 : decode cX5_bySorts 43 = .ok (.iconst 4, 1) := by decide +kernel
theorem dX5_bySorts_44 : decode cX5_bySorts 44 = .ok (.invokestatic 179, 3) := by decide +kernel
theorem dX5_bySorts_47 : decode cX5_bySorts 47 = .ok (.istore 4, 2) := by decide +kernel
theorem dX5_bySorts_49 : decode cX5_bySorts 49 = .ok (.iconst 0, 1) := by decide +kernel
theorem dX5_bySorts_50 : decode cX5_bySorts 50 = .ok (.istore 5, 2) := by decide +kernel
theorem dX5_bySorts_52 : decode cX5_bySorts 52 = .ok (.ldc 184, 2) := by decide +kernel
theorem dX5_bySorts_54 : decode cX5_bySorts 54 = .ok (.istore 6, 2) := by decide +kernel
theorem dX5_bySorts_56 : decode cX5_bySorts 56 = .ok (.iconst 0, 1) := by decide +kernel
theorem dX5_bySorts_57 : decode cX5_bySorts 57 = .ok (.istore 7, 2) := by decide +kernel
theorem dX5_bySorts_59 : decode cX5_bySorts 59 = .ok (.iload 7, 2) := by decide +kernel
theorem dX5_bySorts_61 : decode cX5_bySorts 61 = .ok (.iload 4, 2) := by decide +kernel
theorem dX5_bySorts_63 : decode cX5_bySorts 63 = .ok (.if_icmp .ge 38, 3) := by decide +kernel
theorem dX5_bySorts_66 : decode cX5_bySorts 66 = .ok (.aload_n 0, 1) := by decide +kernel
theorem dX5_bySorts_67 : decode cX5_bySorts 67 = .ok (.iload 7, 2) := by decide +kernel
theorem dX5_bySorts_69 : decode cX5_bySorts 69 = .ok (.aload_n 0, 1) := by decide +kernel
theorem dX5_bySorts_70 : decode cX5_bySorts 70 = .ok (.getfield 28, 3) := by decide +kernel
theorem dX5_bySorts_73 : decode cX5_bySorts 73 = .ok (.iload_n 1, 1) := by decide +kernel
theorem dX5_bySorts_74 : decode cX5_bySorts 74 = .ok (.aaload, 1) := by decide +kernel
theorem dX5_bySorts_75 : decode cX5_bySorts 75 = .ok (.invokevirtual 220, 3) := by decide +kernel
theorem dX5_bySorts_78 : decode cX5_bySorts 78 = .ok (.istore 8, 2) := by decide +kernel
theorem dX5_bySorts_80 : decode cX5_bySorts 80 = .ok (.iload 8, 2) := by decide +kernel
theorem dX5_bySorts_82 : decode cX5_bySorts 82 = .ok (.iload 6, 2) := by decide +kernel
theorem dX5_bySorts_84 : decode cX5_bySorts 84 = .ok (.if_icmp .ge 11, 3) := by decide +kernel
theorem dX5_bySorts_87 : decode cX5_bySorts 87 = .ok (.iload 8, 2) := by decide +kernel
theorem dX5_bySorts_89 : decode cX5_bySorts 89 = .ok (.istore 6, 2) := by decide +kernel
theorem dX5_bySorts_91 : decode cX5_bySorts 91 = .ok (.iload 7, 2) := by decide +kernel
theorem dX5_bySorts_93 : decode cX5_bySorts 93 = .ok (.istore 5, 2) := by decide +kernel
theorem dX5_bySorts_95 : decode cX5_bySorts 95 = .ok (.iinc 7 1, 3) := by decide +kernel
theorem dX5_bySorts_98 : decode cX5_bySorts 98 = .ok (.goto (-39), 3) := by decide +kernel
theorem dX5_bySorts_101 : decode cX5_bySorts 101 = .ok (.iload_n 2, 1) := by decide +kernel
theorem dX5_bySorts_102 : decode cX5_bySorts 102 = .ok (.ifCond .ne 12, 3) := by decide +kernel
theorem dX5_bySorts_105 : decode cX5_bySorts 105 = .ok (.aload_n 0, 1) := by decide +kernel
theorem dX5_bySorts_106 : decode cX5_bySorts 106 = .ok (.iload 5, 2) := by decide +kernel
theorem dX5_bySorts_108 : decode cX5_bySorts 108 = .ok (.invokevirtual 224, 3) := by decide +kernel
theorem dX5_bySorts_111 : decode cX5_bySorts 111 = .ok (.goto 5, 3) := by decide +kernel
theorem dX5_bySorts_114 : decode cX5_bySorts 114 = .ok (.iload 6, 2) := by decide +kernel
theorem dX5_bySorts_116 : decode cX5_bySorts 116 = .ok (.ireturn, 1) := by decide +kernel
theorem dX5_advice_0 : decode cX5_advice 0 = .ok (.iload_n 1, 1) := by decide +kernel
theorem dX5_advice_1 : decode cX5_advice 1 = .ok (.invokestatic 120, 3) := by decide +kernel
theorem dX5_advice_4 : decode cX5_advice 4 = .ok (.ifCond .eq 22, 3) := by decide +kernel
theorem dX5_advice_7 : decode cX5_advice 7 = .ok (.iload_n 2, 1) := by decide +kernel
theorem dX5_advice_8 : decode cX5_advice 8 = .ok (.ifCond .lt 18, 3) := by decide +kernel
theorem dX5_advice_11 : decode cX5_advice 11 = .ok (.iload_n 2, 1) := by decide +kernel
theorem dX5_advice_12 : decode cX5_advice 12 = .ok (.bipush 99, 2) := by decide +kernel
theorem dX5_advice_14 : decode cX5_advice 14 = .ok (.if_icmp .gt 12, 3) := by decide +kernel
theorem dX5_advice_17 : decode cX5_advice 17 = .ok (.aload_n 0, 1) := by decide +kernel
theorem dX5_advice_18 : decode cX5_advice 18 = .ok (.iload_n 1, 1) := by decide +kernel
theorem dX5_advice_19 : decode cX5_advice 19 = .ok (.iload_n 2, 1) := by decide +kernel
theorem dX5_advice_20 : decode cX5_advice 20 = .ok (.invokevirtual 145, 3) := by decide +kernel
theorem dX5_advice_23 : decode cX5_advice 23 = .ok (.goto 4, 3) := by decide +kernel
theorem dX5_advice_26 : decode cX5_advice 26 = .ok (.iconst (-1), 1) := by decide +kernel
theorem dX5_advice_27 : decode cX5_advice 27 = .ok (.ireturn, 1) := by decide +kernel
theorem dX5_news_0 : decode cX5_news 0 = .ok (.iload_n 1, 1) := by decide +kernel
theorem dX5_news_1 : decode cX5_news 1 = .ok (.iload_n 2, 1) := by decide +kernel
theorem dX5_news_2 : decode cX5_news 2 = .ok (.iload_n 3, 1) := by decide +kernel
theorem dX5_news_3 : decode cX5_news 3 = .ok (.invokestatic 227, 3) := by decide +kernel
theorem dX5_news_6 : decode cX5_news 6 = .ok (.ifCond .eq 15, 3) := by decide +kernel
theorem dX5_news_9 : decode cX5_news 9 = .ok (.iload 4, 2) := by decide +kernel
theorem dX5_news_11 : decode cX5_news 11 = .ok (.ifCond .lt 10, 3) := by decide +kernel
theorem dX5_news_14 : decode cX5_news 14 = .ok (.iload 4, 2) := by decide +kernel
theorem dX5_news_16 : decode cX5_news 16 = .ok (.bipush 60, 2) := by decide +kernel
theorem dX5_news_18 : decode cX5_news 18 = .ok (.if_icmp .le 6, 3) := by decide +kernel
theorem dX5_news_21 : decode cX5_news 21 = .ok (.ldc 155, 2) := by decide +kernel
theorem dX5_news_23 : decode cX5_news 23 = .ok (.ireturn, 1) := by decide +kernel
theorem dX5_news_24 : decode cX5_news 24 = .ok (.aload_n 0, 1) := by decide +kernel
theorem dX5_news_25 : decode cX5_news 25 = .ok (.iload_n 1, 1) := by decide +kernel
theorem dX5_news_26 : decode cX5_news 26 = .ok (.iload_n 2, 1) := by decide +kernel
theorem dX5_news_27 : decode cX5_news 27 = .ok (.iload_n 3, 1) := by decide +kernel
theorem dX5_news_28 : decode cX5_news 28 = .ok (.invokevirtual 231, 3) := by decide +kernel
theorem dX5_news_31 : decode cX5_news 31 = .ok (.aload_n 0, 1) := by decide +kernel
theorem dX5_news_32 : decode cX5_news 32 = .ok (.getfield 45, 3) := by decide +kernel
theorem dX5_news_35 : decode cX5_news 35 = .ok (.iload 4, 2) := by decide +kernel
theorem dX5_news_37 : decode cX5_news 37 = .ok (.iaload, 1) := by decide +kernel
theorem dX5_news_38 : decode cX5_news 38 = .ok (.ireturn, 1) := by decide +kernel
theorem dX5_grows_0 : decode cX5_grows 0 = .ok (.iload_n 1, 1) := by decide +kernel
theorem dX5_grows_1 : decode cX5_grows 1 = .ok (.iload_n 2, 1) := by decide +kernel
theorem dX5_grows_2 : decode cX5_grows 2 = .ok (.iload_n 3, 1) := by decide +kernel
theorem dX5_grows_3 : decode cX5_grows 3 = .ok (.invokestatic 227, 3) := by decide +kernel
theorem dX5_grows_6 : decode cX5_grows 6 = .ok (.ifCond .ne 5, 3) := by decide +kernel
theorem dX5_grows_9 : decode cX5_grows 9 = .ok (.iconst (-1), 1) := by decide +kernel
theorem dX5_grows_10 : decode cX5_grows 10 = .ok (.ireturn, 1) := by decide +kernel
theorem dX5_grows_11 : decode cX5_grows 11 = .ok (.aload_n 0, 1) := by decide +kernel
theorem dX5_grows_12 : decode cX5_grows 12 = .ok (.iload_n 1, 1) := by decide +kernel
theorem dX5_grows_13 : decode cX5_grows 13 = .ok (.iload_n 2, 1) := by decide +kernel
theorem dX5_grows_14 : decode cX5_grows 14 = .ok (.iload_n 3, 1) := by decide +kernel
theorem dX5_grows_15 : decode cX5_grows 15 = .ok (.invokevirtual 231, 3) := by decide +kernel
theorem dX5_grows_18 : decode cX5_grows 18 = .ok (.aload_n 0, 1) := by decide +kernel
theorem dX5_grows_19 : decode cX5_grows 19 = .ok (.bipush 31, 2) := by decide +kernel
theorem dX5_grows_21 : decode cX5_grows 21 = .ok (.bipush 60, 2) := by decide +kernel
theorem dX5_grows_23 : decode cX5_grows 23 = .ok (.invokevirtual 234, 3) := by decide +kernel
theorem dX5_grows_26 : decode cX5_grows 26 = .ok (.aload_n 0, 1) := by decide +kernel
theorem dX5_grows_27 : decode cX5_grows 27 = .ok (.iconst 1, 1) := by decide +kernel
theorem dX5_grows_28 : decode cX5_grows 28 = .ok (.bipush 30, 2) := by decide +kernel
theorem dX5_grows_30 : decode cX5_grows 30 = .ok (.invokevirtual 234, 3) := by decide +kernel
theorem dX5_grows_33 : decode cX5_grows 33 = .ok (.if_icmp .le 7, 3) := by decide +kernel
theorem dX5_grows_36 : decode cX5_grows 36 = .ok (.iconst 1, 1) := by decide +kernel
theorem dX5_grows_37 : decode cX5_grows 37 = .ok (.goto 4, 3) := by decide +kernel
theorem dX5_grows_40 : decode cX5_grows 40 = .ok (.iconst 0, 1) := by decide +kernel
theorem dX5_grows_41 : decode cX5_grows 41 = .ok (.ireturn, 1) := by decide +kernel
theorem dX5_other_0 : decode cX5_other 0 = .ok (.iload_n 1, 1) := by decide +kernel
theorem dX5_other_1 : decode cX5_other 1 = .ok (.invokestatic 120, 3) := by decide +kernel
theorem dX5_other_4 : decode cX5_other 4 = .ok (.ifCond .eq 25, 3) := by decide +kernel
theorem dX5_other_7 : decode cX5_other 7 = .ok (.iload_n 2, 1) := by decide +kernel
theorem dX5_other_8 : decode cX5_other 8 = .ok (.ifCond .lt 21, 3) := by decide +kernel
theorem dX5_other_11 : decode cX5_other 11 = .ok (.iload_n 2, 1) := by decide +kernel
theorem dX5_other_12 : decode cX5_other 12 = .ok (.sipush 999, 3) := by decide +kernel
theorem dX5_other_15 : decode cX5_other 15 = .ok (.if_icmp .gt 14, 3) := by decide +kernel
theorem dX5_other_18 : decode cX5_other 18 = .ok (.iload_n 3, 1) := by decide +kernel
theorem dX5_other_19 : decode cX5_other 19 = .ok (.ifCond .lt 10, 3) := by decide +kernel
theorem dX5_other_22 : decode cX5_other 22 = .ok (.iload_n 3, 1) := by decide +kernel
theorem dX5_other_23 : decode cX5_other 23 = .ok (.sipush 999, 3) := by decide +kernel
theorem dX5_other_26 : decode cX5_other 26 = .ok (.if_icmp .le 5, 3) := by decide +kernel
theorem dX5_other_29 : decode cX5_other 29 = .ok (.iconst (-1), 1) := by decide +kernel
theorem dX5_other_30 : decode cX5_other 30 = .ok (.ireturn, 1) := by decide +kernel
theorem dX5_other_31 : decode cX5_other 31 = .ok (.iload_n 2, 1) := by decide +kernel
theorem dX5_other_32 : decode cX5_other 32 = .ok (.iload_n 3, 1) := by decide +kernel
theorem dX5_other_33 : decode cX5_other 33 = .ok (.iadd, 1) := by decide +kernel
theorem dX5_other_34 : decode cX5_other 34 = .ok (.aload_n 0, 1) := by decide +kernel
theorem dX5_other_35 : decode cX5_other 35 = .ok (.getfield 10, 3) := by decide +kernel
theorem dX5_other_38 : decode cX5_other 38 = .ok (.iload_n 1, 1) := by decide +kernel
theorem dX5_other_39 : decode cX5_other 39 = .ok (.invokevirtual 214, 3) := by decide +kernel
theorem dX5_other_42 : decode cX5_other 42 = .ok (.if_icmp .ge 7, 3) := by decide +kernel
theorem dX5_other_45 : decode cX5_other 45 = .ok (.iconst 1, 1) := by decide +kernel
theorem dX5_other_46 : decode cX5_other 46 = .ok (.goto 4, 3) := by decide +kernel
theorem dX5_other_49 : decode cX5_other 49 = .ok (.iconst 0, 1) := by decide +kernel
theorem dX5_other_50 : decode cX5_other 50 = .ok (.ireturn, 1) := by decide +kernel
theorem dX5_seeded_0 : decode cX5_seeded 0 = .ok (.iload_n 1, 1) := by decide +kernel
theorem dX5_seeded_1 : decode cX5_seeded 1 = .ok (.iconst 1, 1) := by decide +kernel
theorem dX5_seeded_2 : decode cX5_seeded 2 = .ok (.if_icmp .lt 18, 3) := by decide +kernel
theorem dX5_seeded_5 : decode cX5_seeded 5 = .ok (.iload_n 1, 1) := by decide +kernel
theorem dX5_seeded_6 : decode cX5_seeded 6 = .ok (.bipush 30, 2) := by decide +kernel
theorem dX5_seeded_8 : decode cX5_seeded 8 = .ok (.if_icmp .gt 12, 3) := by decide +kernel
theorem dX5_seeded_11 : decode cX5_seeded 11 = .ok (.iload_n 3, 1) := by decide +kernel
theorem dX5_seeded_12 : decode cX5_seeded 12 = .ok (.ifCond .lt 8, 3) := by decide +kernel
theorem dX5_seeded_15 : decode cX5_seeded 15 = .ok (.iload_n 3, 1) := by decide +kernel
theorem dX5_seeded_16 : decode cX5_seeded 16 = .ok (.iconst 1, 1) := by decide +kernel
theorem dX5_seeded_17 : decode cX5_seeded 17 = .ok (.if_icmp .le 5, 3) := by decide +kernel
theorem dX5_seeded_20 : decode cX5_seeded 20 = .ok (.iconst (-1), 1) := by decide +kernel
theorem dX5_seeded_21 : decode cX5_seeded 21 = .ok (.ireturn, 1) := by decide +kernel
theorem dX5_seeded_22 : decode cX5_seeded 22 = .ok (.aload_n 0, 1) := by decide +kernel
theorem dX5_seeded_23 : decode cX5_seeded 23 = .ok (.getfield 16, 3) := by decide +kernel
theorem dX5_seeded_26 : decode cX5_seeded 26 = .ok (.aload_n 0, 1) := by decide +kernel
theorem dX5_seeded_27 : decode cX5_seeded 27 = .ok (.getfield 10, 3) := by decide +kernel
theorem dX5_seeded_30 : decode cX5_seeded 30 = .ok (.invokevirtual 59, 3) := by decide +kernel
theorem dX5_seeded_33 : decode cX5_seeded 33 = .ok (.iload_n 2, 1) := by decide +kernel
theorem dX5_seeded_34 : decode cX5_seeded 34 = .ok (.istore 4, 2) := by decide +kernel
theorem dX5_seeded_36 : decode cX5_seeded 36 = .ok (.iconst 0, 1) := by decide +kernel
theorem dX5_seeded_37 : decode cX5_seeded 37 = .ok (.istore 5, 2) := by decide +kernel
theorem dX5_seeded_39 : decode cX5_seeded 39 = .ok (.iconst 0, 1) := by decide +kernel
theorem dX5_seeded_40 : decode cX5_seeded 40 = .ok (.istore 6, 2) := by decide +kernel
theorem dX5_seeded_42 : decode cX5_seeded 42 = .ok (.iload 6, 2) := by decide +kernel
theorem dX5_seeded_44 : decode cX5_seeded 44 = .ok (.iload_n 1, 1) := by decide +kernel
theorem dX5_seeded_45 : decode cX5_seeded 45 = .ok (.if_icmp .ge 73, 3) := by decide +kernel
theorem dX5_seeded_48 : decode cX5_seeded 48 = .ok (.iload 4, 2) := by decide +kernel
theorem dX5_seeded_50 : decode cX5_seeded 50 = .ok (.invokestatic 237, 3) := by decide +kernel
theorem dX5_seeded_53 : decode cX5_seeded 53 = .ok (.istore 4, 2) := by decide +kernel
theorem dX5_seeded_55 : decode cX5_seeded 55 = .ok (.aload_n 0, 1) := by decide +kernel
theorem dX5_seeded_56 : decode cX5_seeded 56 = .ok (.getfield 16, 3) := by decide +kernel
theorem dX5_seeded_59 : decode cX5_seeded 59 = .ok (.iload 4, 2) := by decide +kernel
theorem dX5_seeded_61 : decode cX5_seeded 61 = .ok (.iconst 4, 1) := by decide +kernel
theorem dX5_seeded_62 : decode cX5_seeded 62 = .ok (.invokestatic 240, 3) := by decide +kernel
theorem dX5_seeded_65 : decode cX5_seeded 65 = .ok (.invokevirtual 136, 3) := by decide +kernel
theorem dX5_seeded_68 : decode cX5_seeded 68 = .ok (.pop, 1) := by decide +kernel
theorem dX5_seeded_69 : decode cX5_seeded 69 = .ok (.iload 4, 2) := by decide +kernel
theorem dX5_seeded_71 : decode cX5_seeded 71 = .ok (.invokestatic 237, 3) := by decide +kernel
theorem dX5_seeded_74 : decode cX5_seeded 74 = .ok (.istore 4, 2) := by decide +kernel
theorem dX5_seeded_76 : decode cX5_seeded 76 = .ok (.aload_n 0, 1) := by decide +kernel
theorem dX5_seeded_77 : decode cX5_seeded 77 = .ok (.getfield 16, 3) := by decide +kernel
theorem dX5_seeded_80 : decode cX5_seeded 80 = .ok (.invokevirtual 139, 3) := by decide +kernel
theorem dX5_seeded_83 : decode cX5_seeded 83 = .ok (.istore 7, 2) := by decide +kernel
theorem dX5_seeded_85 : decode cX5_seeded 85 = .ok (.iload 7, 2) := by decide +kernel
theorem dX5_seeded_87 : decode cX5_seeded 87 = .ok (.ifCond .lt 25, 3) := by decide +kernel
theorem dX5_seeded_90 : decode cX5_seeded 90 = .ok (.aload_n 0, 1) := by decide +kernel
theorem dX5_seeded_91 : decode cX5_seeded 91 = .ok (.getfield 16, 3) := by decide +kernel
theorem dX5_seeded_94 : decode cX5_seeded 94 = .ok (.getfield 78, 3) := by decide +kernel
theorem dX5_seeded_97 : decode cX5_seeded 97 = .ok (.iload 7, 2) := by decide +kernel
theorem dX5_seeded_99 : decode cX5_seeded 99 = .ok (.aaload, 1) := by decide +kernel
theorem dX5_seeded_100 : decode cX5_seeded 100 = .ok (.iload 4, 2) := by decide +kernel
theorem dX5_seeded_102 : decode cX5_seeded 102 = .ok (.iconst 4, 1) := by decide +kernel
theorem dX5_seeded_103 : decode cX5_seeded 103 = .ok (.invokestatic 240, 3) := by decide +kernel
theorem dX5_seeded_106 : decode cX5_seeded 106 = .ok (.invokevirtual 132, 3) := by decide +kernel
theorem dX5_seeded_109 : decode cX5_seeded 109 = .ok (.iinc 5 1, 3) := by decide +kernel
theorem dX5_seeded_112 : decode cX5_seeded 112 = .ok (.iinc 6 1, 3) := by decide +kernel
theorem dX5_seeded_115 : decode cX5_seeded 115 = .ok (.goto (-73), 3) := by decide +kernel
theorem dX5_seeded_118 : decode cX5_seeded 118 = .ok (.iload_n 3, 1) := by decide +kernel
theorem dX5_seeded_119 : decode cX5_seeded 119 = .ok (.ifCond .ne 8, 3) := by decide +kernel
theorem dX5_seeded_122 : decode cX5_seeded 122 = .ok (.iload 5, 2) := by decide +kernel
theorem dX5_seeded_124 : decode cX5_seeded 124 = .ok (.goto 10, 3) := by decide +kernel
theorem dX5_seeded_127 : decode cX5_seeded 127 = .ok (.aload_n 0, 1) := by decide +kernel
theorem dX5_seeded_128 : decode cX5_seeded 128 = .ok (.getfield 16, 3) := by decide +kernel
theorem dX5_seeded_131 : decode cX5_seeded 131 = .ok (.invokevirtual 243, 3) := by decide +kernel
theorem dX5_seeded_134 : decode cX5_seeded 134 = .ok (.ireturn, 1) := by decide +kernel
theorem dX5_judge_0 : decode cX5_judge 0 = .ok (.aload_n 0, 1) := by decide +kernel
theorem dX5_judge_1 : decode cX5_judge 1 = .ok (.getfield 10, 3) := by decide +kernel
theorem dX5_judge_4 : decode cX5_judge 4 = .ok (.iload_n 1, 1) := by decide +kernel
theorem dX5_judge_5 : decode cX5_judge 5 = .ok (.invokevirtual 74, 3) := by decide +kernel
theorem dX5_judge_8 : decode cX5_judge 8 = .ok (.ifCond .ne 5, 3) := by decide +kernel
theorem dX5_judge_11 : decode cX5_judge 11 = .ok (.iconst (-1), 1) := by decide +kernel
theorem dX5_judge_12 : decode cX5_judge 12 = .ok (.ireturn, 1) := by decide +kernel
theorem dX5_judge_13 : decode cX5_judge 13 = .ok (.aload_n 0, 1) := by decide +kernel
theorem dX5_judge_14 : decode cX5_judge 14 = .ok (.iload_n 2, 1) := by decide +kernel
theorem dX5_judge_15 : decode cX5_judge 15 = .ok (.invokevirtual 246, 3) := by decide +kernel
theorem dX5_judge_18 : decode cX5_judge 18 = .ok (.istore_n 3, 1) := by decide +kernel
theorem dX5_judge_19 : decode cX5_judge 19 = .ok (.iload_n 3, 1) := by decide +kernel
theorem dX5_judge_20 : decode cX5_judge 20 = .ok (.ifCond .eq 5, 3) := by decide +kernel
theorem dX5_judge_23 : decode cX5_judge 23 = .ok (.iload_n 3, 1) := by decide +kernel
theorem dX5_judge_24 : decode cX5_judge 24 = .ok (.ireturn, 1) := by decide +kernel
theorem dX5_judge_25 : decode cX5_judge 25 = .ok (.aload_n 0, 1) := by decide +kernel
theorem dX5_judge_26 : decode cX5_judge 26 = .ok (.getfield 28, 3) := by decide +kernel
theorem dX5_judge_29 : decode cX5_judge 29 = .ok (.iload_n 2, 1) := by decide +kernel
theorem dX5_judge_30 : decode cX5_judge 30 = .ok (.aaload, 1) := by decide +kernel
theorem dX5_judge_31 : decode cX5_judge 31 = .ok (.astore 4, 2) := by decide +kernel
theorem dX5_judge_33 : decode cX5_judge 33 = .ok (.aload_n 0, 1) := by decide +kernel
theorem dX5_judge_34 : decode cX5_judge 34 = .ok (.getfield 16, 3) := by decide +kernel
theorem dX5_judge_37 : decode cX5_judge 37 = .ok (.aload_n 0, 1) := by decide +kernel
theorem dX5_judge_38 : decode cX5_judge 38 = .ok (.getfield 10, 3) := by decide +kernel
theorem dX5_judge_41 : decode cX5_judge 41 = .ok (.invokevirtual 59, 3) := by decide +kernel
theorem dX5_judge_44 : decode cX5_judge 44 = .ok (.aload_n 0, 1) := by decide +kernel
theorem dX5_judge_45 : decode cX5_judge 45 = .ok (.getfield 16, 3) := by decide +kernel
theorem dX5_judge_48 : decode cX5_judge 48 = .ok (.getfield 78, 3) := by decide +kernel
theorem dX5_judge_51 : decode cX5_judge 51 = .ok (.iload_n 1, 1) := by decide +kernel
theorem dX5_judge_52 : decode cX5_judge 52 = .ok (.aaload, 1) := by decide +kernel
theorem dX5_judge_53 : decode cX5_judge 53 = .ok (.astore 5, 2) := by decide +kernel
theorem dX5_judge_55 : decode cX5_judge 55 = .ok (.iconst 0, 1) := by decide +kernel
theorem dX5_judge_56 : decode cX5_judge 56 = .ok (.istore 6, 2) := by decide +kernel
theorem dX5_judge_58 : decode cX5_judge 58 = .ok (.iload 6, 2) := by decide +kernel
theorem dX5_judge_60 : decode cX5_judge 60 = .ok (.aload 4, 2) := by decide +kernel
theorem dX5_judge_62 : decode cX5_judge 62 = .ok (.getfield 63, 3) := by decide +kernel
theorem dX5_judge_65 : decode cX5_judge 65 = .ok (.if_icmp .ge 50, 3) := by decide +kernel
theorem dX5_judge_68 : decode cX5_judge 68 = .ok (.aload 5, 2) := by decide +kernel
theorem dX5_judge_70 : decode cX5_judge 70 = .ok (.invokevirtual 205, 3) := by decide +kernel
theorem dX5_judge_73 : decode cX5_judge 73 = .ok (.pop, 1) := by decide +kernel
theorem dX5_judge_74 : decode cX5_judge 74 = .ok (.aload 4, 2) := by decide +kernel
theorem dX5_judge_76 : decode cX5_judge 76 = .ok (.getfield 67, 3) := by decide +kernel
theorem dX5_judge_79 : decode cX5_judge 79 = .ok (.iload 6, 2) := by decide +kernel
theorem dX5_judge_81 : decode cX5_judge 81 = .ok (.iaload, 1) := by decide +kernel
theorem dX5_judge_82 : decode cX5_judge 82 = .ok (.aload 4, 2) := by decide +kernel
theorem dX5_judge_84 : decode cX5_judge 84 = .ok (.invokevirtual 249, 3) := by decide +kernel
theorem dX5_judge_87 : decode cX5_judge 87 = .ok (.if_icmp .eq 22, 3) := by decide +kernel
theorem dX5_judge_90 : decode cX5_judge 90 = .ok (.aload 4, 2) := by decide +kernel
theorem dX5_judge_92 : decode cX5_judge 92 = .ok (.getfield 67, 3) := by decide +kernel
theorem dX5_judge_95 : decode cX5_judge 95 = .ok (.iload 6, 2) := by decide +kernel
theorem dX5_judge_97 : decode cX5_judge 97 = .ok (.iaload, 1) := by decide +kernel
theorem dX5_judge_98 : decode cX5_judge 98 = .ok (.aload 5, 2) := by decide +kernel
theorem dX5_judge_100 : decode cX5_judge 100 = .ok (.getfield 90, 3) := by decide +kernel
theorem dX5_judge_103 : decode cX5_judge 103 = .ok (.if_icmp .eq 6, 3) := by decide +kernel
theorem dX5_judge_106 : decode cX5_judge 106 = .ok (.iload 6, 2) := by decide +kernel
theorem dX5_judge_108 : decode cX5_judge 108 = .ok (.ireturn, 1) := by decide +kernel
theorem dX5_judge_109 : decode cX5_judge 109 = .ok (.iinc 6 1, 3) := by decide +kernel
theorem dX5_judge_112 : decode cX5_judge 112 = .ok (.goto (-54), 3) := by decide +kernel
theorem dX5_judge_115 : decode cX5_judge 115 = .ok (.bipush (-4), 2) := by decide +kernel
theorem dX5_judge_117 : decode cX5_judge 117 = .ok (.ireturn, 1) := by decide +kernel
theorem dX5_image_0 : decode cX5_image 0 = .ok (.aload_n 0, 1) := by decide +kernel
theorem dX5_image_1 : decode cX5_image 1 = .ok (.getfield 19, 3) := by decide +kernel
theorem dX5_image_4 : decode cX5_image 4 = .ok (.aload_n 0, 1) := by decide +kernel
theorem dX5_image_5 : decode cX5_image 5 = .ok (.getfield 10, 3) := by decide +kernel
theorem dX5_image_8 : decode cX5_image 8 = .ok (.invokevirtual 59, 3) := by decide +kernel
theorem dX5_image_11 : decode cX5_image 11 = .ok (.aload_n 0, 1) := by decide +kernel
theorem dX5_image_12 : decode cX5_image 12 = .ok (.iconst 1, 1) := by decide +kernel
theorem dX5_image_13 : decode cX5_image 13 = .ok (.putfield 22, 3) := by decide +kernel
theorem dX5_image_16 : decode cX5_image 16 = .ok (.aload_n 0, 1) := by decide +kernel
theorem dX5_image_17 : decode cX5_image 17 = .ok (.getfield 10, 3) := by decide +kernel
theorem dX5_image_20 : decode cX5_image 20 = .ok (.getfield 252, 3) := by decide +kernel
theorem dX5_image_23 : decode cX5_image 23 = .ok (.ireturn, 1) := by decide +kernel
theorem dX5_restore_0 : decode cX5_restore 0 = .ok (.aload_n 0, 1) := by decide +kernel
theorem dX5_restore_1 : decode cX5_restore 1 = .ok (.getfield 22, 3) := by decide +kernel
theorem dX5_restore_4 : decode cX5_restore 4 = .ok (.ifCond .ne 6, 3) := by decide +kernel
theorem dX5_restore_7 : decode cX5_restore 7 = .ok (.bipush (-3), 2) := by decide +kernel
theorem dX5_restore_9 : decode cX5_restore 9 = .ok (.ireturn, 1) := by decide +kernel
theorem dX5_restore_10 : decode cX5_restore 10 = .ok (.aload_n 0, 1) := by decide +kernel
theorem dX5_restore_11 : decode cX5_restore 11 = .ok (.getfield 10, 3) := by decide +kernel
theorem dX5_restore_14 : decode cX5_restore 14 = .ok (.aload_n 0, 1) := by decide +kernel
theorem dX5_restore_15 : decode cX5_restore 15 = .ok (.getfield 19, 3) := by decide +kernel
theorem dX5_restore_18 : decode cX5_restore 18 = .ok (.invokevirtual 59, 3) := by decide +kernel
theorem dX5_restore_21 : decode cX5_restore 21 = .ok (.aload_n 0, 1) := by decide +kernel
theorem dX5_restore_22 : decode cX5_restore 22 = .ok (.getfield 10, 3) := by decide +kernel
theorem dX5_restore_25 : decode cX5_restore 25 = .ok (.getfield 252, 3) := by decide +kernel
theorem dX5_restore_28 : decode cX5_restore 28 = .ok (.ireturn, 1) := by decide +kernel
theorem dX5_count_0 : decode cX5_count 0 = .ok (.iload_n 1, 1) := by decide +kernel
theorem dX5_count_1 : decode cX5_count 1 = .ok (.tableswitch 87 0 5 #[39, 47, 55, 63, 71, 79], 39) := by decide +kernel
theorem dX5_count_40 : decode cX5_count 40 = .ok (.aload_n 0, 1) := by decide +kernel
theorem dX5_count_41 : decode cX5_count 41 = .ok (.getfield 10, 3) := by decide +kernel
theorem dX5_count_44 : decode cX5_count 44 = .ok (.getfield 193, 3) := by decide +kernel
theorem dX5_count_47 : decode cX5_count 47 = .ok (.ireturn, 1) := by decide +kernel
theorem dX5_count_48 : decode cX5_count 48 = .ok (.aload_n 0, 1) := by decide +kernel
theorem dX5_count_49 : decode cX5_count 49 = .ok (.getfield 10, 3) := by decide +kernel
theorem dX5_count_52 : decode cX5_count 52 = .ok (.invokevirtual 243, 3) := by decide +kernel
theorem dX5_count_55 : decode cX5_count 55 = .ok (.ireturn, 1) := by decide +kernel
theorem dX5_count_56 : decode cX5_count 56 = .ok (.aload_n 0, 1) := by decide +kernel
theorem dX5_count_57 : decode cX5_count 57 = .ok (.getfield 10, 3) := by decide +kernel
theorem dX5_count_60 : decode cX5_count 60 = .ok (.getfield 252, 3) := by decide +kernel
theorem dX5_count_63 : decode cX5_count 63 = .ok (.ireturn, 1) := by decide +kernel
theorem dX5_count_64 : decode cX5_count 64 = .ok (.aload_n 0, 1) := by decide +kernel
theorem dX5_count_65 : decode cX5_count 65 = .ok (.getfield 10, 3) := by decide +kernel
theorem dX5_count_68 : decode cX5_count 68 = .ok (.getfield 255, 3) := by decide +kernel
theorem dX5_count_71 : decode cX5_count 71 = .ok (.ireturn, 1) := by decide +kernel
theorem dX5_count_72 : decode cX5_count 72 = .ok (.aload_n 0, 1) := by decide +kernel
theorem dX5_count_73 : decode cX5_count 73 = .ok (.getfield 10, 3) := by decide +kernel
theorem dX5_count_76 : decode cX5_count 76 = .ok (.invokevirtual 258, 3) := by decide +kernel
theorem dX5_count_79 : decode cX5_count 79 = .ok (.ireturn, 1) := by decide +kernel
theorem dX5_count_80 : decode cX5_count 80 = .ok (.aload_n 0, 1) := by decide +kernel
theorem dX5_count_81 : decode cX5_count 81 = .ok (.getfield 10, 3) := by decide +kernel
theorem dX5_count_84 : decode cX5_count 84 = .ok (.invokevirtual 261, 3) := by decide +kernel
theorem dX5_count_87 : decode cX5_count 87 = .ok (.ireturn, 1) := by decide +kernel
theorem dX5_count_88 : decode cX5_count 88 = .ok (.iconst (-1), 1) := by decide +kernel
theorem dX5_count_89 : decode cX5_count 89 = .ok (.ireturn, 1) := by decide +kernel
theorem dX5_keep_0 : decode cX5_keep 0 = .ok (.iload_n 1, 1) := by decide +kernel
theorem dX5_keep_1 : decode cX5_keep 1 = .ok (.invokestatic 264, 3) := by decide +kernel
theorem dX5_keep_4 : decode cX5_keep 4 = .ok (.ifCond .eq 28, 3) := by decide +kernel
theorem dX5_keep_7 : decode cX5_keep 7 = .ok (.iload_n 2, 1) := by decide +kernel
theorem dX5_keep_8 : decode cX5_keep 8 = .ok (.ifCond .lt 24, 3) := by decide +kernel
theorem dX5_keep_11 : decode cX5_keep 11 = .ok (.iload_n 2, 1) := by decide +kernel
theorem dX5_keep_12 : decode cX5_keep 12 = .ok (.iconst 1, 1) := by decide +kernel
theorem dX5_keep_13 : decode cX5_keep 13 = .ok (.if_icmp .gt 19, 3) := by decide +kernel
theorem dX5_keep_16 : decode cX5_keep 16 = .ok (.iload_n 2, 1) := by decide +kernel
theorem dX5_keep_17 : decode cX5_keep 17 = .ok (.iconst 1, 1) := by decide +kernel
theorem dX5_keep_18 : decode cX5_keep 18 = .ok (.if_icmp .ne 16, 3) := by decide +kernel
theorem dX5_keep_21 : decode cX5_keep 21 = .ok (.aload_n 0, 1) := by decide +kernel
theorem dX5_keep_22 : decode cX5_keep 22 = .ok (.getfield 10, 3) := by decide +kernel
theorem dX5_keep_25 : decode cX5_keep 25 = .ok (.iload_n 3, 1) := by decide +kernel
theorem dX5_keep_26 : decode cX5_keep 26 = .ok (.invokevirtual 74, 3) := by decide +kernel
theorem dX5_keep_29 : decode cX5_keep 29 = .ok (.ifCond .ne 5, 3) := by decide +kernel
theorem dX5_keep_32 : decode cX5_keep 32 = .ok (.iconst (-1), 1) := by decide +kernel
theorem dX5_keep_33 : decode cX5_keep 33 = .ok (.ireturn, 1) := by decide +kernel
theorem dX5_keep_34 : decode cX5_keep 34 = .ok (.iload_n 2, 1) := by decide +kernel
theorem dX5_keep_35 : decode cX5_keep 35 = .ok (.ifCond .ne 15, 3) := by decide +kernel
theorem dX5_keep_38 : decode cX5_keep 38 = .ok (.aload_n 0, 1) := by decide +kernel
theorem dX5_keep_39 : decode cX5_keep 39 = .ok (.getfield 28, 3) := by decide +kernel
theorem dX5_keep_42 : decode cX5_keep 42 = .ok (.iload_n 1, 1) := by decide +kernel
theorem dX5_keep_43 : decode cX5_keep 43 = .ok (.aaload, 1) := by decide +kernel
theorem dX5_keep_44 : decode cX5_keep 44 = .ok (.invokevirtual 267, 3) := by decide +kernel
theorem dX5_keep_47 : decode cX5_keep 47 = .ok (.goto 22, 3) := by decide +kernel
theorem dX5_keep_50 : decode cX5_keep 50 = .ok (.aload_n 0, 1) := by decide +kernel
theorem dX5_keep_51 : decode cX5_keep 51 = .ok (.getfield 28, 3) := by decide +kernel
theorem dX5_keep_54 : decode cX5_keep 54 = .ok (.iload_n 1, 1) := by decide +kernel
theorem dX5_keep_55 : decode cX5_keep 55 = .ok (.aaload, 1) := by decide +kernel
theorem dX5_keep_56 : decode cX5_keep 56 = .ok (.iload_n 3, 1) := by decide +kernel
theorem dX5_keep_57 : decode cX5_keep 57 = .ok (.aload_n 0, 1) := by decide +kernel
theorem dX5_keep_58 : decode cX5_keep 58 = .ok (.getfield 10, 3) := by decide +kernel
theorem dX5_keep_61 : decode cX5_keep 61 = .ok (.getfield 78, 3) := by decide +kernel
theorem dX5_keep_64 : decode cX5_keep 64 = .ok (.iload_n 3, 1) := by decide +kernel
theorem dX5_keep_65 : decode cX5_keep 65 = .ok (.aaload, 1) := by decide +kernel
theorem dX5_keep_66 : decode cX5_keep 66 = .ok (.invokevirtual 270, 3) := by decide +kernel
theorem dX5_keep_69 : decode cX5_keep 69 = .ok (.iconst 0, 1) := by decide +kernel
theorem dX5_keep_70 : decode cX5_keep 70 = .ok (.ireturn, 1) := by decide +kernel
theorem dX5_row_0 : decode cX5_row 0 = .ok (.iload_n 1, 1) := by decide +kernel
theorem dX5_row_1 : decode cX5_row 1 = .ok (.invokestatic 264, 3) := by decide +kernel
theorem dX5_row_4 : decode cX5_row 4 = .ok (.ifCond .eq 18, 3) := by decide +kernel
theorem dX5_row_7 : decode cX5_row 7 = .ok (.iload_n 2, 1) := by decide +kernel
theorem dX5_row_8 : decode cX5_row 8 = .ok (.ifCond .lt 14, 3) := by decide +kernel
theorem dX5_row_11 : decode cX5_row 11 = .ok (.iload_n 2, 1) := by decide +kernel
theorem dX5_row_12 : decode cX5_row 12 = .ok (.iconst 2, 1) := by decide +kernel
theorem dX5_row_13 : decode cX5_row 13 = .ok (.if_icmp .gt 9, 3) := by decide +kernel
theorem dX5_row_16 : decode cX5_row 16 = .ok (.iload_n 3, 1) := by decide +kernel
theorem dX5_row_17 : decode cX5_row 17 = .ok (.bipush 100, 2) := by decide +kernel
theorem dX5_row_19 : decode cX5_row 19 = .ok (.if_icmp .le 5, 3) := by decide +kernel
theorem dX5_row_22 : decode cX5_row 22 = .ok (.iconst (-1), 1) := by decide +kernel
theorem dX5_row_23 : decode cX5_row 23 = .ok (.ireturn, 1) := by decide +kernel
theorem dX5_row_24 : decode cX5_row 24 = .ok (.iload_n 3, 1) := by decide +kernel
theorem dX5_row_25 : decode cX5_row 25 = .ok (.ifCond .ge 6, 3) := by decide +kernel
theorem dX5_row_28 : decode cX5_row 28 = .ok (.bipush (-14), 2) := by decide +kernel
theorem dX5_row_30 : decode cX5_row 30 = .ok (.ireturn, 1) := by decide +kernel
theorem dX5_row_31 : decode cX5_row 31 = .ok (.aload_n 0, 1) := by decide +kernel
theorem dX5_row_32 : decode cX5_row 32 = .ok (.getfield 28, 3) := by decide +kernel
theorem dX5_row_35 : decode cX5_row 35 = .ok (.iload_n 1, 1) := by decide +kernel
theorem dX5_row_36 : decode cX5_row 36 = .ok (.aaload, 1) := by decide +kernel
theorem dX5_row_37 : decode cX5_row 37 = .ok (.iload_n 2, 1) := by decide +kernel
theorem dX5_row_38 : decode cX5_row 38 = .ok (.iload_n 3, 1) := by decide +kernel
theorem dX5_row_39 : decode cX5_row 39 = .ok (.invokevirtual 274, 3) := by decide +kernel
theorem dX5_row_42 : decode cX5_row 42 = .ok (.iconst 0, 1) := by decide +kernel
theorem dX5_row_43 : decode cX5_row 43 = .ok (.ireturn, 1) := by decide +kernel
theorem dX5_put_0 : decode cX5_put 0 = .ok (.aload_n 0, 1) := by decide +kernel
theorem dX5_put_1 : decode cX5_put 1 = .ok (.iload_n 1, 1) := by decide +kernel
theorem dX5_put_2 : decode cX5_put 2 = .ok (.invokevirtual 246, 3) := by decide +kernel
theorem dX5_put_5 : decode cX5_put 5 = .ok (.istore 4, 2) := by decide +kernel
theorem dX5_put_7 : decode cX5_put 7 = .ok (.iload 4, 2) := by decide +kernel
theorem dX5_put_9 : decode cX5_put 9 = .ok (.ifCond .eq 6, 3) := by decide +kernel
theorem dX5_put_12 : decode cX5_put 12 = .ok (.iload 4, 2) := by decide +kernel
theorem dX5_put_14 : decode cX5_put 14 = .ok (.ireturn, 1) := by decide +kernel
theorem dX5_put_15 : decode cX5_put 15 = .ok (.aload_n 0, 1) := by decide +kernel
theorem dX5_put_16 : decode cX5_put 16 = .ok (.getfield 28, 3) := by decide +kernel
theorem dX5_put_19 : decode cX5_put 19 = .ok (.iload_n 1, 1) := by decide +kernel
theorem dX5_put_20 : decode cX5_put 20 = .ok (.aaload, 1) := by decide +kernel
theorem dX5_put_21 : decode cX5_put 21 = .ok (.iload_n 2, 1) := by decide +kernel
theorem dX5_put_22 : decode cX5_put 22 = .ok (.invokevirtual 278, 3) := by decide +kernel
theorem dX5_put_25 : decode cX5_put 25 = .ok (.ifCond .ne 6, 3) := by decide +kernel
theorem dX5_put_28 : decode cX5_put 28 = .ok (.bipush (-13), 2) := by decide +kernel
theorem dX5_put_30 : decode cX5_put 30 = .ok (.ireturn, 1) := by decide +kernel
theorem dX5_put_31 : decode cX5_put 31 = .ok (.aload_n 0, 1) := by decide +kernel
theorem dX5_put_32 : decode cX5_put 32 = .ok (.getfield 28, 3) := by decide +kernel
theorem dX5_put_35 : decode cX5_put 35 = .ok (.iload_n 1, 1) := by decide +kernel
theorem dX5_put_36 : decode cX5_put 36 = .ok (.aaload, 1) := by decide +kernel
theorem dX5_put_37 : decode cX5_put 37 = .ok (.getfield 67, 3) := by decide +kernel
theorem dX5_put_40 : decode cX5_put 40 = .ok (.iload_n 2, 1) := by decide +kernel
theorem dX5_put_41 : decode cX5_put 41 = .ok (.aload_n 0, 1) := by decide +kernel
theorem dX5_put_42 : decode cX5_put 42 = .ok (.getfield 28, 3) := by decide +kernel
theorem dX5_put_45 : decode cX5_put 45 = .ok (.iload_n 1, 1) := by decide +kernel
theorem dX5_put_46 : decode cX5_put 46 = .ok (.aaload, 1) := by decide +kernel
theorem dX5_put_47 : decode cX5_put 47 = .ok (.iload_n 3, 1) := by decide +kernel
theorem dX5_put_48 : decode cX5_put 48 = .ok (.invokevirtual 281, 3) := by decide +kernel
theorem dX5_put_51 : decode cX5_put 51 = .ok (.iastore, 1) := by decide +kernel
theorem dX5_put_52 : decode cX5_put 52 = .ok (.iconst 0, 1) := by decide +kernel
theorem dX5_put_53 : decode cX5_put 53 = .ok (.ireturn, 1) := by decide +kernel
theorem dX5_element_0 : decode cX5_element 0 = .ok (.iload_n 1, 1) := by decide +kernel
theorem dX5_element_1 : decode cX5_element 1 = .ok (.invokestatic 264, 3) := by decide +kernel
theorem dX5_element_4 : decode cX5_element 4 = .ok (.ifCond .ne 14, 3) := by decide +kernel
theorem dX5_element_7 : decode cX5_element 7 = .ok (.new 284, 3) := by decide +kernel
theorem dX5_element_10 : decode cX5_element 10 = .ok (.dup, 1) := by decide +kernel
theorem dX5_element_11 : decode cX5_element 11 = .ok (.ldc_w 286, 3) := by decide +kernel
theorem dX5_element_14 : decode cX5_element 14 = .ok (.invokespecial 288, 3) := by decide +kernel
theorem dX5_element_17 : decode cX5_element 17 = .ok (.athrow, 1) := by decide +kernel
theorem dX5_element_18 : decode cX5_element 18 = .ok (.aload_n 0, 1) := by decide +kernel
theorem dX5_element_19 : decode cX5_element 19 = .ok (.getfield 28, 3) := by decide +kernel
theorem dX5_element_22 : decode cX5_element 22 = .ok (.iload_n 1, 1) := by decide +kernel
theorem dX5_element_23 : decode cX5_element 23 = .ok (.aaload, 1) := by decide +kernel
theorem dX5_element_24 : decode cX5_element 24 = .ok (.iload_n 2, 1) := by decide +kernel
theorem dX5_element_25 : decode cX5_element 25 = .ok (.invokevirtual 278, 3) := by decide +kernel
theorem dX5_element_28 : decode cX5_element 28 = .ok (.ifCond .ne 14, 3) := by decide +kernel
theorem dX5_element_31 : decode cX5_element 31 = .ok (.new 291, 3) := by decide +kernel
theorem dX5_element_34 : decode cX5_element 34 = .ok (.dup, 1) := by decide +kernel
theorem dX5_element_35 : decode cX5_element 35 = .ok (.ldc_w 293, 3) := by decide +kernel
theorem dX5_element_38 : decode cX5_element 38 = .ok (.invokespecial 295, 3) := by decide +kernel
theorem dX5_element_41 : decode cX5_element 41 = .ok (.athrow, 1) := by decide +kernel
theorem dX5_element_42 : decode cX5_element 42 = .ok (.aload_n 0, 1) := by decide +kernel
theorem dX5_element_43 : decode cX5_element 43 = .ok (.getfield 28, 3) := by decide +kernel
theorem dX5_element_46 : decode cX5_element 46 = .ok (.iload_n 1, 1) := by decide +kernel
theorem dX5_element_47 : decode cX5_element 47 = .ok (.aaload, 1) := by decide +kernel
theorem dX5_element_48 : decode cX5_element 48 = .ok (.getfield 67, 3) := by decide +kernel
theorem dX5_element_51 : decode cX5_element 51 = .ok (.iload_n 2, 1) := by decide +kernel
theorem dX5_element_52 : decode cX5_element 52 = .ok (.iaload, 1) := by decide +kernel
theorem dX5_element_53 : decode cX5_element 53 = .ok (.i2l, 1) := by decide +kernel
theorem dX5_element_54 : decode cX5_element 54 = .ok (.lreturn, 1) := by decide +kernel
theorem dX5_copy_0 : decode cX5_copy 0 = .ok (.iload_n 1, 1) := by decide +kernel
theorem dX5_copy_1 : decode cX5_copy 1 = .ok (.invokestatic 264, 3) := by decide +kernel
theorem dX5_copy_4 : decode cX5_copy 4 = .ok (.ifCond .eq 10, 3) := by decide +kernel
theorem dX5_copy_7 : decode cX5_copy 7 = .ok (.iload_n 3, 1) := by decide +kernel
theorem dX5_copy_8 : decode cX5_copy 8 = .ok (.invokestatic 264, 3) := by decide +kernel
theorem dX5_copy_11 : decode cX5_copy 11 = .ok (.ifCond .ne 5, 3) := by decide +kernel
theorem dX5_copy_14 : decode cX5_copy 14 = .ok (.iconst (-1), 1) := by decide +kernel
theorem dX5_copy_15 : decode cX5_copy 15 = .ok (.ireturn, 1) := by decide +kernel
theorem dX5_copy_16 : decode cX5_copy 16 = .ok (.aload_n 0, 1) := by decide +kernel
theorem dX5_copy_17 : decode cX5_copy 17 = .ok (.getfield 28, 3) := by decide +kernel
theorem dX5_copy_20 : decode cX5_copy 20 = .ok (.iload_n 1, 1) := by decide +kernel
theorem dX5_copy_21 : decode cX5_copy 21 = .ok (.aaload, 1) := by decide +kernel
theorem dX5_copy_22 : decode cX5_copy 22 = .ok (.astore 6, 2) := by decide +kernel
theorem dX5_copy_24 : decode cX5_copy 24 = .ok (.aload_n 0, 1) := by decide +kernel
theorem dX5_copy_25 : decode cX5_copy 25 = .ok (.getfield 28, 3) := by decide +kernel
theorem dX5_copy_28 : decode cX5_copy 28 = .ok (.iload_n 3, 1) := by decide +kernel
theorem dX5_copy_29 : decode cX5_copy 29 = .ok (.aaload, 1) := by decide +kernel
theorem dX5_copy_30 : decode cX5_copy 30 = .ok (.astore 7, 2) := by decide +kernel
theorem dX5_copy_32 : decode cX5_copy 32 = .ok (.aload 6, 2) := by decide +kernel
theorem dX5_copy_34 : decode cX5_copy 34 = .ok (.getfield 296, 3) := by decide +kernel
theorem dX5_copy_37 : decode cX5_copy 37 = .ok (.ifCond .eq 11, 3) := by decide +kernel
theorem dX5_copy_40 : decode cX5_copy 40 = .ok (.aload 7, 2) := by decide +kernel
theorem dX5_copy_42 : decode cX5_copy 42 = .ok (.getfield 296, 3) := by decide +kernel
theorem dX5_copy_45 : decode cX5_copy 45 = .ok (.ifCond .ne 6, 3) := by decide +kernel
theorem dX5_copy_48 : decode cX5_copy 48 = .ok (.bipush (-11), 2) := by decide +kernel
theorem dX5_copy_50 : decode cX5_copy 50 = .ok (.ireturn, 1) := by decide +kernel
theorem dX5_copy_51 : decode cX5_copy 51 = .ok (.aload 6, 2) := by decide +kernel
theorem dX5_copy_53 : decode cX5_copy 53 = .ok (.getfield 296, 3) := by decide +kernel
theorem dX5_copy_56 : decode cX5_copy 56 = .ok (.iconst 2, 1) := by decide +kernel
theorem dX5_copy_57 : decode cX5_copy 57 = .ok (.if_icmp .ne 25, 3) := by decide +kernel
theorem dX5_copy_60 : decode cX5_copy 60 = .ok (.aload 7, 2) := by decide +kernel
theorem dX5_copy_62 : decode cX5_copy 62 = .ok (.getfield 296, 3) := by decide +kernel
theorem dX5_copy_65 : decode cX5_copy 65 = .ok (.iconst 2, 1) := by decide +kernel
theorem dX5_copy_66 : decode cX5_copy 66 = .ok (.if_icmp .ne 16, 3) := by decide +kernel
theorem dX5_copy_69 : decode cX5_copy 69 = .ok (.aload 6, 2) := by decide +kernel
theorem dX5_copy_71 : decode cX5_copy 71 = .ok (.getfield 299, 3) := by decide +kernel
theorem dX5_copy_74 : decode cX5_copy 74 = .ok (.aload 7, 2) := by decide +kernel
theorem dX5_copy_76 : decode cX5_copy 76 = .ok (.getfield 299, 3) := by decide +kernel
theorem dX5_copy_79 : decode cX5_copy 79 = .ok (.if_icmp .eq 6, 3) := by decide +kernel
theorem dX5_copy_82 : decode cX5_copy 82 = .ok (.bipush (-12), 2) := by decide +kernel
theorem dX5_copy_84 : decode cX5_copy 84 = .ok (.ireturn, 1) := by decide +kernel
theorem dX5_copy_85 : decode cX5_copy 85 = .ok (.aload 6, 2) := by decide +kernel
theorem dX5_copy_87 : decode cX5_copy 87 = .ok (.iload_n 2, 1) := by decide +kernel
theorem dX5_copy_88 : decode cX5_copy 88 = .ok (.iload 5, 2) := by decide +kernel
theorem dX5_copy_90 : decode cX5_copy 90 = .ok (.invokevirtual 302, 3) := by decide +kernel
theorem dX5_copy_93 : decode cX5_copy 93 = .ok (.ifCond .eq 15, 3) := by decide +kernel
theorem dX5_copy_96 : decode cX5_copy 96 = .ok (.aload 7, 2) := by decide +kernel
theorem dX5_copy_98 : decode cX5_copy 98 = .ok (.iload 4, 2) := by decide +kernel
theorem dX5_copy_100 : decode cX5_copy 100 = .ok (.iload 5, 2) := by decide +kernel
theorem dX5_copy_102 : decode cX5_copy 102 = .ok (.invokevirtual 302, 3) := by decide +kernel
theorem dX5_copy_105 : decode cX5_copy 105 = .ok (.ifCond .ne 6, 3) := by decide +kernel
theorem dX5_copy_108 : decode cX5_copy 108 = .ok (.bipush (-13), 2) := by decide +kernel
theorem dX5_copy_110 : decode cX5_copy 110 = .ok (.ireturn, 1) := by decide +kernel
theorem dX5_copy_111 : decode cX5_copy 111 = .ok (.aload 6, 2) := by decide +kernel
theorem dX5_copy_113 : decode cX5_copy 113 = .ok (.getfield 67, 3) := by decide +kernel
theorem dX5_copy_116 : decode cX5_copy 116 = .ok (.iload_n 2, 1) := by decide +kernel
theorem dX5_copy_117 : decode cX5_copy 117 = .ok (.aload 7, 2) := by decide +kernel
theorem dX5_copy_119 : decode cX5_copy 119 = .ok (.getfield 67, 3) := by decide +kernel
theorem dX5_copy_122 : decode cX5_copy 122 = .ok (.iload 4, 2) := by decide +kernel
theorem dX5_copy_124 : decode cX5_copy 124 = .ok (.iload 5, 2) := by decide +kernel
theorem dX5_copy_126 : decode cX5_copy 126 = .ok (.invokestatic 305, 3) := by decide +kernel
theorem dX5_copy_129 : decode cX5_copy 129 = .ok (.iload 5, 2) := by decide +kernel
theorem dX5_copy_131 : decode cX5_copy 131 = .ok (.ireturn, 1) := by decide +kernel
theorem dX5_toll_0 : decode cX5_toll 0 = .ok (.aload_n 0, 1) := by decide +kernel
theorem dX5_toll_1 : decode cX5_toll 1 = .ok (.iload_n 1, 1) := by decide +kernel
theorem dX5_toll_2 : decode cX5_toll 2 = .ok (.invokevirtual 311, 3) := by decide +kernel
theorem dX5_toll_5 : decode cX5_toll 5 = .ok (.istore_n 2, 1) := by decide +kernel
theorem dX5_toll_6 : decode cX5_toll 6 = .ok (.iload_n 2, 1) := by decide +kernel
theorem dX5_toll_7 : decode cX5_toll 7 = .ok (.ifCond .eq 7, 3) := by decide +kernel
theorem dX5_toll_10 : decode cX5_toll 10 = .ok (.iload_n 2, 1) := by decide +kernel
theorem dX5_toll_11 : decode cX5_toll 11 = .ok (.goto 24, 3) := by decide +kernel
theorem dX5_toll_14 : decode cX5_toll 14 = .ok (.aload_n 0, 1) := by decide +kernel
theorem dX5_toll_15 : decode cX5_toll 15 = .ok (.getfield 28, 3) := by decide +kernel
theorem dX5_toll_18 : decode cX5_toll 18 = .ok (.iload_n 1, 1) := by decide +kernel
theorem dX5_toll_19 : decode cX5_toll 19 = .ok (.aaload, 1) := by decide +kernel
theorem dX5_toll_20 : decode cX5_toll 20 = .ok (.getfield 314, 3) := by decide +kernel
theorem dX5_toll_23 : decode cX5_toll 23 = .ok (.aload_n 0, 1) := by decide +kernel
theorem dX5_toll_24 : decode cX5_toll 24 = .ok (.getfield 28, 3) := by decide +kernel
theorem dX5_toll_27 : decode cX5_toll 27 = .ok (.iload_n 1, 1) := by decide +kernel
theorem dX5_toll_28 : decode cX5_toll 28 = .ok (.aaload, 1) := by decide +kernel
theorem dX5_toll_29 : decode cX5_toll 29 = .ok (.getfield 315, 3) := by decide +kernel
theorem dX5_toll_32 : decode cX5_toll 32 = .ok (.invokestatic 316, 3) := by decide +kernel
theorem dX5_toll_35 : decode cX5_toll 35 = .ok (.ireturn, 1) := by decide +kernel
theorem dX5_toss_0 : decode cX5_toss 0 = .ok (.aload_n 0, 1) := by decide +kernel
theorem dX5_toss_1 : decode cX5_toss 1 = .ok (.iload_n 1, 1) := by decide +kernel
theorem dX5_toss_2 : decode cX5_toss 2 = .ok (.invokevirtual 311, 3) := by decide +kernel
theorem dX5_toss_5 : decode cX5_toss 5 = .ok (.istore_n 2, 1) := by decide +kernel
theorem dX5_toss_6 : decode cX5_toss 6 = .ok (.iload_n 2, 1) := by decide +kernel
theorem dX5_toss_7 : decode cX5_toss 7 = .ok (.ifCond .eq 5, 3) := by decide +kernel
theorem dX5_toss_10 : decode cX5_toss 10 = .ok (.iload_n 2, 1) := by decide +kernel
theorem dX5_toss_11 : decode cX5_toss 11 = .ok (.ireturn, 1) := by decide +kernel
theorem dX5_toss_12 : decode cX5_toss 12 = .ok (.aload_n 0, 1) := by decide +kernel
theorem dX5_toss_13 : decode cX5_toss 13 = .ok (.getfield 28, 3) := by decide +kernel
theorem dX5_toss_16 : decode cX5_toss 16 = .ok (.iload_n 1, 1) := by decide +kernel
theorem dX5_toss_17 : decode cX5_toss 17 = .ok (.aaload, 1) := by decide +kernel
theorem dX5_toss_18 : decode cX5_toss 18 = .ok (.astore_n 3, 1) := by decide +kernel
theorem dX5_toss_19 : decode cX5_toss 19 = .ok (.aload_n 3, 1) := by decide +kernel
theorem dX5_toss_20 : decode cX5_toss 20 = .ok (.getfield 314, 3) := by decide +kernel
theorem dX5_toss_23 : decode cX5_toss 23 = .ok (.aload_n 3, 1) := by decide +kernel
theorem dX5_toss_24 : decode cX5_toss 24 = .ok (.getfield 315, 3) := by decide +kernel
theorem dX5_toss_27 : decode cX5_toss 27 = .ok (.invokestatic 321, 3) := by decide +kernel
theorem dX5_toss_30 : decode cX5_toss 30 = .ok (.goto 38, 3) := by decide +kernel
theorem dX5_toss_33 : decode cX5_toss 33 = .ok (.astore 4, 2) := by decide +kernel
theorem dX5_toss_35 : decode cX5_toss 35 = .ok (.aload_n 3, 1) := by decide +kernel
theorem dX5_toss_36 : decode cX5_toss 36 = .ok (.getfield 326, 3) := by decide +kernel
theorem dX5_toss_39 : decode cX5_toss 39 = .ok (.bipush 100, 2) := by decide +kernel
theorem dX5_toss_41 : decode cX5_toss 41 = .ok (.iadd, 1) := by decide +kernel
theorem dX5_toss_42 : decode cX5_toss 42 = .ok (.ireturn, 1) := by decide +kernel
theorem dX5_toss_43 : decode cX5_toss 43 = .ok (.astore 4, 2) := by decide +kernel
theorem dX5_toss_45 : decode cX5_toss 45 = .ok (.sipush 200, 3) := by decide +kernel
theorem dX5_toss_48 : decode cX5_toss 48 = .ok (.aload_n 3, 1) := by decide +kernel
theorem dX5_toss_49 : decode cX5_toss 49 = .ok (.getfield 314, 3) := by decide +kernel
theorem dX5_toss_52 : decode cX5_toss 52 = .ok (.aload_n 3, 1) := by decide +kernel
theorem dX5_toss_53 : decode cX5_toss 53 = .ok (.getfield 315, 3) := by decide +kernel
theorem dX5_toss_56 : decode cX5_toss 56 = .ok (.invokestatic 316, 3) := by decide +kernel
theorem dX5_toss_59 : decode cX5_toss 59 = .ok (.iadd, 1) := by decide +kernel
theorem dX5_toss_60 : decode cX5_toss 60 = .ok (.ireturn, 1) := by decide +kernel
theorem dX5_toss_61 : decode cX5_toss 61 = .ok (.astore 4, 2) := by decide +kernel
theorem dX5_toss_63 : decode cX5_toss 63 = .ok (.aload_n 3, 1) := by decide +kernel
theorem dX5_toss_64 : decode cX5_toss 64 = .ok (.getfield 326, 3) := by decide +kernel
theorem dX5_toss_67 : decode cX5_toss 67 = .ok (.ireturn, 1) := by decide +kernel
theorem dX5_toss_68 : decode cX5_toss 68 = .ok (.bipush (-15), 2) := by decide +kernel
theorem dX5_toss_70 : decode cX5_toss 70 = .ok (.ireturn, 1) := by decide +kernel
theorem dX5_isSort_0 : decode cX5_isSort 0 = .ok (.iload_n 0, 1) := by decide +kernel
theorem dX5_isSort_1 : decode cX5_isSort 1 = .ok (.ifCond .lt 12, 3) := by decide +kernel
theorem dX5_isSort_4 : decode cX5_isSort 4 = .ok (.iload_n 0, 1) := by decide +kernel
theorem dX5_isSort_5 : decode cX5_isSort 5 = .ok (.iconst 4, 1) := by decide +kernel
theorem dX5_isSort_6 : decode cX5_isSort 6 = .ok (.if_icmp .ge 7, 3) := by decide +kernel
theorem dX5_isSort_9 : decode cX5_isSort 9 = .ok (.iconst 1, 1) := by decide +kernel
theorem dX5_isSort_10 : decode cX5_isSort 10 = .ok (.goto 4, 3) := by decide +kernel
theorem dX5_isSort_13 : decode cX5_isSort 13 = .ok (.iconst 0, 1) := by decide +kernel
theorem dX5_isSort_14 : decode cX5_isSort 14 = .ok (.ireturn, 1) := by decide +kernel
theorem dX5_isShelf_0 : decode cX5_isShelf 0 = .ok (.iload_n 0, 1) := by decide +kernel
theorem dX5_isShelf_1 : decode cX5_isShelf 1 = .ok (.ifCond .lt 13, 3) := by decide +kernel
theorem dX5_isShelf_4 : decode cX5_isShelf 4 = .ok (.iload_n 0, 1) := by decide +kernel
theorem dX5_isShelf_5 : decode cX5_isShelf 5 = .ok (.bipush 8, 2) := by decide +kernel
theorem dX5_isShelf_7 : decode cX5_isShelf 7 = .ok (.if_icmp .ge 7, 3) := by decide +kernel
theorem dX5_isShelf_10 : decode cX5_isShelf 10 = .ok (.iconst 1, 1) := by decide +kernel
theorem dX5_isShelf_11 : decode cX5_isShelf 11 = .ok (.goto 4, 3) := by decide +kernel
theorem dX5_isShelf_14 : decode cX5_isShelf 14 = .ok (.iconst 0, 1) := by decide +kernel
theorem dX5_isShelf_15 : decode cX5_isShelf 15 = .ok (.ireturn, 1) := by decide +kernel
theorem dX5_areNews_0 : decode cX5_areNews 0 = .ok (.iload_n 0, 1) := by decide +kernel
theorem dX5_areNews_1 : decode cX5_areNews 1 = .ok (.bipush (-99), 2) := by decide +kernel
theorem dX5_areNews_3 : decode cX5_areNews 3 = .ok (.if_icmp .lt 32, 3) := by decide +kernel
theorem dX5_areNews_6 : decode cX5_areNews 6 = .ok (.iload_n 0, 1) := by decide +kernel
theorem dX5_areNews_7 : decode cX5_areNews 7 = .ok (.bipush 99, 2) := by decide +kernel
theorem dX5_areNews_9 : decode cX5_areNews 9 = .ok (.if_icmp .gt 26, 3) := by decide +kernel
theorem dX5_areNews_12 : decode cX5_areNews 12 = .ok (.iload_n 1, 1) := by decide +kernel
theorem dX5_areNews_13 : decode cX5_areNews 13 = .ok (.ifCond .lt 22, 3) := by decide +kernel
theorem dX5_areNews_16 : decode cX5_areNews 16 = .ok (.iload_n 1, 1) := by decide +kernel
theorem dX5_areNews_17 : decode cX5_areNews 17 = .ok (.iconst 5, 1) := by decide +kernel
theorem dX5_areNews_18 : decode cX5_areNews 18 = .ok (.if_icmp .gt 17, 3) := by decide +kernel
theorem dX5_areNews_21 : decode cX5_areNews 21 = .ok (.iload_n 2, 1) := by decide +kernel
theorem dX5_areNews_22 : decode cX5_areNews 22 = .ok (.ifCond .lt 13, 3) := by decide +kernel
theorem dX5_areNews_25 : decode cX5_areNews 25 = .ok (.iload_n 2, 1) := by decide +kernel
theorem dX5_areNews_26 : decode cX5_areNews 26 = .ok (.bipush 20, 2) := by decide +kernel
theorem dX5_areNews_28 : decode cX5_areNews 28 = .ok (.if_icmp .gt 7, 3) := by decide +kernel
theorem dX5_areNews_31 : decode cX5_areNews 31 = .ok (.iconst 1, 1) := by decide +kernel
theorem dX5_areNews_32 : decode cX5_areNews 32 = .ok (.goto 4, 3) := by decide +kernel
theorem dX5_areNews_35 : decode cX5_areNews 35 = .ok (.iconst 0, 1) := by decide +kernel
theorem dX5_areNews_36 : decode cX5_areNews 36 = .ok (.ireturn, 1) := by decide +kernel
theorem dX5_shelfRefusal_0 : decode cX5_shelfRefusal 0 = .ok (.iload_n 1, 1) := by decide +kernel
theorem dX5_shelfRefusal_1 : decode cX5_shelfRefusal 1 = .ok (.invokestatic 264, 3) := by decide +kernel
theorem dX5_shelfRefusal_4 : decode cX5_shelfRefusal 4 = .ok (.ifCond .ne 5, 3) := by decide +kernel
theorem dX5_shelfRefusal_7 : decode cX5_shelfRefusal 7 = .ok (.iconst (-1), 1) := by decide +kernel
theorem dX5_shelfRefusal_8 : decode cX5_shelfRefusal 8 = .ok (.ireturn, 1) := by decide +kernel
theorem dX5_shelfRefusal_9 : decode cX5_shelfRefusal 9 = .ok (.aload_n 0, 1) := by decide +kernel
theorem dX5_shelfRefusal_10 : decode cX5_shelfRefusal 10 = .ok (.getfield 28, 3) := by decide +kernel
theorem dX5_shelfRefusal_13 : decode cX5_shelfRefusal 13 = .ok (.iload_n 1, 1) := by decide +kernel
theorem dX5_shelfRefusal_14 : decode cX5_shelfRefusal 14 = .ok (.aaload, 1) := by decide +kernel
theorem dX5_shelfRefusal_15 : decode cX5_shelfRefusal 15 = .ok (.getfield 296, 3) := by decide +kernel
theorem dX5_shelfRefusal_18 : decode cX5_shelfRefusal 18 = .ok (.ifCond .ne 6, 3) := by decide +kernel
theorem dX5_shelfRefusal_21 : decode cX5_shelfRefusal 21 = .ok (.bipush (-11), 2) := by decide +kernel
theorem dX5_shelfRefusal_23 : decode cX5_shelfRefusal 23 = .ok (.ireturn, 1) := by decide +kernel
theorem dX5_shelfRefusal_24 : decode cX5_shelfRefusal 24 = .ok (.aload_n 0, 1) := by decide +kernel
theorem dX5_shelfRefusal_25 : decode cX5_shelfRefusal 25 = .ok (.getfield 28, 3) := by decide +kernel
theorem dX5_shelfRefusal_28 : decode cX5_shelfRefusal 28 = .ok (.iload_n 1, 1) := by decide +kernel
theorem dX5_shelfRefusal_29 : decode cX5_shelfRefusal 29 = .ok (.aaload, 1) := by decide +kernel
theorem dX5_shelfRefusal_30 : decode cX5_shelfRefusal 30 = .ok (.getfield 296, 3) := by decide +kernel
theorem dX5_shelfRefusal_33 : decode cX5_shelfRefusal 33 = .ok (.iload_n 2, 1) := by decide +kernel
theorem dX5_shelfRefusal_34 : decode cX5_shelfRefusal 34 = .ok (.if_icmp .ne 7, 3) := by decide +kernel
theorem dX5_shelfRefusal_37 : decode cX5_shelfRefusal 37 = .ok (.iconst 0, 1) := by decide +kernel
theorem dX5_shelfRefusal_38 : decode cX5_shelfRefusal 38 = .ok (.goto 5, 3) := by decide +kernel
theorem dX5_shelfRefusal_41 : decode cX5_shelfRefusal 41 = .ok (.bipush (-12), 2) := by decide +kernel
theorem dX5_shelfRefusal_43 : decode cX5_shelfRefusal 43 = .ok (.ireturn, 1) := by decide +kernel
theorem dX5_rowRefusal_0 : decode cX5_rowRefusal 0 = .ok (.aload_n 0, 1) := by decide +kernel
theorem dX5_rowRefusal_1 : decode cX5_rowRefusal 1 = .ok (.iload_n 1, 1) := by decide +kernel
theorem dX5_rowRefusal_2 : decode cX5_rowRefusal 2 = .ok (.iconst 2, 1) := by decide +kernel
theorem dX5_rowRefusal_3 : decode cX5_rowRefusal 3 = .ok (.invokevirtual 329, 3) := by decide +kernel
theorem dX5_rowRefusal_6 : decode cX5_rowRefusal 6 = .ok (.ireturn, 1) := by decide +kernel
theorem dX5_keptLaneRefusal_0 : decode cX5_keptLaneRefusal 0 = .ok (.aload_n 0, 1) := by decide +kernel
theorem dX5_keptLaneRefusal_1 : decode cX5_keptLaneRefusal 1 = .ok (.iload_n 1, 1) := by decide +kernel
theorem dX5_keptLaneRefusal_2 : decode cX5_keptLaneRefusal 2 = .ok (.iconst 1, 1) := by decide +kernel
theorem dX5_keptLaneRefusal_3 : decode cX5_keptLaneRefusal 3 = .ok (.invokevirtual 329, 3) := by decide +kernel
theorem dX5_keptLaneRefusal_6 : decode cX5_keptLaneRefusal 6 = .ok (.ireturn, 1) := by decide +kernel
theorem dX5_bytesRefusal_0 : decode cX5_bytesRefusal 0 = .ok (.aload_n 0, 1) := by decide +kernel
theorem dX5_bytesRefusal_1 : decode cX5_bytesRefusal 1 = .ok (.iload_n 1, 1) := by decide +kernel
theorem dX5_bytesRefusal_2 : decode cX5_bytesRefusal 2 = .ok (.invokevirtual 246, 3) := by decide +kernel
theorem dX5_bytesRefusal_5 : decode cX5_bytesRefusal 5 = .ok (.istore_n 2, 1) := by decide +kernel
theorem dX5_bytesRefusal_6 : decode cX5_bytesRefusal 6 = .ok (.iload_n 2, 1) := by decide +kernel
theorem dX5_bytesRefusal_7 : decode cX5_bytesRefusal 7 = .ok (.ifCond .eq 5, 3) := by decide +kernel
theorem dX5_bytesRefusal_10 : decode cX5_bytesRefusal 10 = .ok (.iload_n 2, 1) := by decide +kernel
theorem dX5_bytesRefusal_11 : decode cX5_bytesRefusal 11 = .ok (.ireturn, 1) := by decide +kernel
theorem dX5_bytesRefusal_12 : decode cX5_bytesRefusal 12 = .ok (.aload_n 0, 1) := by decide +kernel
theorem dX5_bytesRefusal_13 : decode cX5_bytesRefusal 13 = .ok (.getfield 28, 3) := by decide +kernel
theorem dX5_bytesRefusal_16 : decode cX5_bytesRefusal 16 = .ok (.iload_n 1, 1) := by decide +kernel
theorem dX5_bytesRefusal_17 : decode cX5_bytesRefusal 17 = .ok (.aaload, 1) := by decide +kernel
theorem dX5_bytesRefusal_18 : decode cX5_bytesRefusal 18 = .ok (.getfield 299, 3) := by decide +kernel
theorem dX5_bytesRefusal_21 : decode cX5_bytesRefusal 21 = .ok (.ifCond .ne 7, 3) := by decide +kernel
theorem dX5_bytesRefusal_24 : decode cX5_bytesRefusal 24 = .ok (.iconst 0, 1) := by decide +kernel
theorem dX5_bytesRefusal_25 : decode cX5_bytesRefusal 25 = .ok (.goto 5, 3) := by decide +kernel
theorem dX5_bytesRefusal_28 : decode cX5_bytesRefusal 28 = .ok (.bipush (-12), 2) := by decide +kernel
theorem dX5_bytesRefusal_30 : decode cX5_bytesRefusal 30 = .ok (.ireturn, 1) := by decide +kernel
theorem dX5_sortsRefusal_0 : decode cX5_sortsRefusal 0 = .ok (.aload_n 0, 1) := by decide +kernel
theorem dX5_sortsRefusal_1 : decode cX5_sortsRefusal 1 = .ok (.iload_n 1, 1) := by decide +kernel
theorem dX5_sortsRefusal_2 : decode cX5_sortsRefusal 2 = .ok (.invokevirtual 49, 3) := by decide +kernel
theorem dX5_sortsRefusal_5 : decode cX5_sortsRefusal 5 = .ok (.istore_n 2, 1) := by decide +kernel
theorem dX5_sortsRefusal_6 : decode cX5_sortsRefusal 6 = .ok (.iload_n 2, 1) := by decide +kernel
theorem dX5_sortsRefusal_7 : decode cX5_sortsRefusal 7 = .ok (.ifCond .eq 5, 3) := by decide +kernel
theorem dX5_sortsRefusal_10 : decode cX5_sortsRefusal 10 = .ok (.iload_n 2, 1) := by decide +kernel
theorem dX5_sortsRefusal_11 : decode cX5_sortsRefusal 11 = .ok (.ireturn, 1) := by decide +kernel
theorem dX5_sortsRefusal_12 : decode cX5_sortsRefusal 12 = .ok (.aload_n 0, 1) := by decide +kernel
theorem dX5_sortsRefusal_13 : decode cX5_sortsRefusal 13 = .ok (.getfield 28, 3) := by decide +kernel
theorem dX5_sortsRefusal_16 : decode cX5_sortsRefusal 16 = .ok (.iload_n 1, 1) := by decide +kernel
theorem dX5_sortsRefusal_17 : decode cX5_sortsRefusal 17 = .ok (.aaload, 1) := by decide +kernel
theorem dX5_sortsRefusal_18 : decode cX5_sortsRefusal 18 = .ok (.astore_n 3, 1) := by decide +kernel
theorem dX5_sortsRefusal_19 : decode cX5_sortsRefusal 19 = .ok (.aload_n 3, 1) := by decide +kernel
theorem dX5_sortsRefusal_20 : decode cX5_sortsRefusal 20 = .ok (.getfield 63, 3) := by decide +kernel
theorem dX5_sortsRefusal_23 : decode cX5_sortsRefusal 23 = .ok (.bipush 20, 2) := by decide +kernel
theorem dX5_sortsRefusal_25 : decode cX5_sortsRefusal 25 = .ok (.if_icmp .le 6, 3) := by decide +kernel
theorem dX5_sortsRefusal_28 : decode cX5_sortsRefusal 28 = .ok (.bipush (-13), 2) := by decide +kernel
theorem dX5_sortsRefusal_30 : decode cX5_sortsRefusal 30 = .ok (.ireturn, 1) := by decide +kernel
theorem dX5_sortsRefusal_31 : decode cX5_sortsRefusal 31 = .ok (.iconst 0, 1) := by decide +kernel
theorem dX5_sortsRefusal_32 : decode cX5_sortsRefusal 32 = .ok (.istore 4, 2) := by decide +kernel
theorem dX5_sortsRefusal_34 : decode cX5_sortsRefusal 34 = .ok (.iload 4, 2) := by decide +kernel
theorem dX5_sortsRefusal_36 : decode cX5_sortsRefusal 36 = .ok (.aload_n 3, 1) := by decide +kernel
theorem dX5_sortsRefusal_37 : decode cX5_sortsRefusal 37 = .ok (.getfield 63, 3) := by decide +kernel
theorem dX5_sortsRefusal_40 : decode cX5_sortsRefusal 40 = .ok (.if_icmp .ge 25, 3) := by decide +kernel
theorem dX5_sortsRefusal_43 : decode cX5_sortsRefusal 43 = .ok (.aload_n 3, 1) := by decide +kernel
theorem dX5_sortsRefusal_44 : decode cX5_sortsRefusal 44 = .ok (.getfield 67, 3) := by decide +kernel
theorem dX5_sortsRefusal_47 : decode cX5_sortsRefusal 47 = .ok (.iload 4, 2) := by decide +kernel
theorem dX5_sortsRefusal_49 : decode cX5_sortsRefusal 49 = .ok (.iaload, 1) := by decide +kernel
theorem dX5_sortsRefusal_50 : decode cX5_sortsRefusal 50 = .ok (.invokestatic 120, 3) := by decide +kernel
theorem dX5_sortsRefusal_53 : decode cX5_sortsRefusal 53 = .ok (.ifCond .ne 6, 3) := by decide +kernel
theorem dX5_sortsRefusal_56 : decode cX5_sortsRefusal 56 = .ok (.bipush (-13), 2) := by decide +kernel
theorem dX5_sortsRefusal_58 : decode cX5_sortsRefusal 58 = .ok (.ireturn, 1) := by decide +kernel
theorem dX5_sortsRefusal_59 : decode cX5_sortsRefusal 59 = .ok (.iinc 4 1, 3) := by decide +kernel
theorem dX5_sortsRefusal_62 : decode cX5_sortsRefusal 62 = .ok (.goto (-28), 3) := by decide +kernel
theorem dX5_sortsRefusal_65 : decode cX5_sortsRefusal 65 = .ok (.iconst 0, 1) := by decide +kernel
theorem dX5_sortsRefusal_66 : decode cX5_sortsRefusal 66 = .ok (.ireturn, 1) := by decide +kernel
theorem dX5_changeRefusal_0 : decode cX5_changeRefusal 0 = .ok (.iload_n 2, 1) := by decide +kernel
theorem dX5_changeRefusal_1 : decode cX5_changeRefusal 1 = .ok (.iconst 1, 1) := by decide +kernel
theorem dX5_changeRefusal_2 : decode cX5_changeRefusal 2 = .ok (.if_icmp .lt 31, 3) := by decide +kernel
theorem dX5_changeRefusal_5 : decode cX5_changeRefusal 5 = .ok (.aload_n 0, 1) := by decide +kernel
theorem dX5_changeRefusal_6 : decode cX5_changeRefusal 6 = .ok (.getfield 10, 3) := by decide +kernel
theorem dX5_changeRefusal_9 : decode cX5_changeRefusal 9 = .ok (.iload_n 1, 1) := by decide +kernel
theorem dX5_changeRefusal_10 : decode cX5_changeRefusal 10 = .ok (.iload_n 2, 1) := by decide +kernel
theorem dX5_changeRefusal_11 : decode cX5_changeRefusal 11 = .ok (.invokevirtual 113, 3) := by decide +kernel
theorem dX5_changeRefusal_14 : decode cX5_changeRefusal 14 = .ok (.ifCond .eq 19, 3) := by decide +kernel
theorem dX5_changeRefusal_17 : decode cX5_changeRefusal 17 = .ok (.aload_n 0, 1) := by decide +kernel
theorem dX5_changeRefusal_18 : decode cX5_changeRefusal 18 = .ok (.getfield 10, 3) := by decide +kernel
theorem dX5_changeRefusal_21 : decode cX5_changeRefusal 21 = .ok (.iload_n 3, 1) := by decide +kernel
theorem dX5_changeRefusal_22 : decode cX5_changeRefusal 22 = .ok (.invokevirtual 74, 3) := by decide +kernel
theorem dX5_changeRefusal_25 : decode cX5_changeRefusal 25 = .ok (.ifCond .eq 8, 3) := by decide +kernel
theorem dX5_changeRefusal_28 : decode cX5_changeRefusal 28 = .ok (.iload_n 1, 1) := by decide +kernel
theorem dX5_changeRefusal_29 : decode cX5_changeRefusal 29 = .ok (.iload_n 3, 1) := by decide +kernel
theorem dX5_changeRefusal_30 : decode cX5_changeRefusal 30 = .ok (.if_icmp .ne 6, 3) := by decide +kernel
theorem dX5_changeRefusal_33 : decode cX5_changeRefusal 33 = .ok (.ldc 155, 2) := by decide +kernel
theorem dX5_changeRefusal_35 : decode cX5_changeRefusal 35 = .ok (.ireturn, 1) := by decide +kernel
theorem dX5_changeRefusal_36 : decode cX5_changeRefusal 36 = .ok (.aload_n 0, 1) := by decide +kernel
theorem dX5_changeRefusal_37 : decode cX5_changeRefusal 37 = .ok (.getfield 10, 3) := by decide +kernel
theorem dX5_changeRefusal_40 : decode cX5_changeRefusal 40 = .ok (.getfield 78, 3) := by decide +kernel
theorem dX5_changeRefusal_43 : decode cX5_changeRefusal 43 = .ok (.iload_n 3, 1) := by decide +kernel
theorem dX5_changeRefusal_44 : decode cX5_changeRefusal 44 = .ok (.aaload, 1) := by decide +kernel
theorem dX5_changeRefusal_45 : decode cX5_changeRefusal 45 = .ok (.invokevirtual 126, 3) := by decide +kernel
theorem dX5_changeRefusal_48 : decode cX5_changeRefusal 48 = .ok (.ifCond .ne 7, 3) := by decide +kernel
theorem dX5_changeRefusal_51 : decode cX5_changeRefusal 51 = .ok (.ldc_w 332, 3) := by decide +kernel
theorem dX5_changeRefusal_54 : decode cX5_changeRefusal 54 = .ok (.ireturn, 1) := by decide +kernel
theorem dX5_changeRefusal_55 : decode cX5_changeRefusal 55 = .ok (.aload_n 0, 1) := by decide +kernel
theorem dX5_changeRefusal_56 : decode cX5_changeRefusal 56 = .ok (.getfield 10, 3) := by decide +kernel
theorem dX5_changeRefusal_59 : decode cX5_changeRefusal 59 = .ok (.getfield 78, 3) := by decide +kernel
theorem dX5_changeRefusal_62 : decode cX5_changeRefusal 62 = .ok (.iload_n 3, 1) := by decide +kernel
theorem dX5_changeRefusal_63 : decode cX5_changeRefusal 63 = .ok (.aaload, 1) := by decide +kernel
theorem dX5_changeRefusal_64 : decode cX5_changeRefusal 64 = .ok (.invokevirtual 106, 3) := by decide +kernel
theorem dX5_changeRefusal_67 : decode cX5_changeRefusal 67 = .ok (.ifCond .eq 7, 3) := by decide +kernel
theorem dX5_changeRefusal_70 : decode cX5_changeRefusal 70 = .ok (.iconst 0, 1) := by decide +kernel
theorem dX5_changeRefusal_71 : decode cX5_changeRefusal 71 = .ok (.goto 6, 3) := by decide +kernel
theorem dX5_changeRefusal_74 : decode cX5_changeRefusal 74 = .ok (.ldc_w 333, 3) := by decide +kernel
theorem dX5_changeRefusal_77 : decode cX5_changeRefusal 77 = .ok (.ireturn, 1) := by decide +kernel
theorem dX5_regretTimes_0 : decode cX5_regretTimes 0 = .ok (.aload_n 0, 1) := by decide +kernel
theorem dX5_regretTimes_1 : decode cX5_regretTimes 1 = .ok (.getfield 10, 3) := by decide +kernel
theorem dX5_regretTimes_4 : decode cX5_regretTimes 4 = .ok (.invokevirtual 139, 3) := by decide +kernel
theorem dX5_regretTimes_7 : decode cX5_regretTimes 7 = .ok (.istore_n 3, 1) := by decide +kernel
theorem dX5_regretTimes_8 : decode cX5_regretTimes 8 = .ok (.iload_n 3, 1) := by decide +kernel
theorem dX5_regretTimes_9 : decode cX5_regretTimes 9 = .ok (.ifCond .ge 6, 3) := by decide +kernel
theorem dX5_regretTimes_12 : decode cX5_regretTimes 12 = .ok (.bipush (-4), 2) := by decide +kernel
theorem dX5_regretTimes_14 : decode cX5_regretTimes 14 = .ok (.ireturn, 1) := by decide +kernel
theorem dX5_regretTimes_15 : decode cX5_regretTimes 15 = .ok (.aload_n 0, 1) := by decide +kernel
theorem dX5_regretTimes_16 : decode cX5_regretTimes 16 = .ok (.getfield 10, 3) := by decide +kernel
theorem dX5_regretTimes_19 : decode cX5_regretTimes 19 = .ok (.getfield 78, 3) := by decide +kernel
theorem dX5_regretTimes_22 : decode cX5_regretTimes 22 = .ok (.iload_n 3, 1) := by decide +kernel
theorem dX5_regretTimes_23 : decode cX5_regretTimes 23 = .ok (.aaload, 1) := by decide +kernel
theorem dX5_regretTimes_24 : decode cX5_regretTimes 24 = .ok (.iload_n 1, 1) := by decide +kernel
theorem dX5_regretTimes_25 : decode cX5_regretTimes 25 = .ok (.invokevirtual 129, 3) := by decide +kernel
theorem dX5_regretTimes_28 : decode cX5_regretTimes 28 = .ok (.aload_n 0, 1) := by decide +kernel
theorem dX5_regretTimes_29 : decode cX5_regretTimes 29 = .ok (.getfield 10, 3) := by decide +kernel
theorem dX5_regretTimes_32 : decode cX5_regretTimes 32 = .ok (.iload_n 1, 1) := by decide +kernel
theorem dX5_regretTimes_33 : decode cX5_regretTimes 33 = .ok (.invokevirtual 214, 3) := by decide +kernel
theorem dX5_regretTimes_36 : decode cX5_regretTimes 36 = .ok (.isub, 1) := by decide +kernel
theorem dX5_regretTimes_37 : decode cX5_regretTimes 37 = .ok (.iload_n 2, 1) := by decide +kernel
theorem dX5_regretTimes_38 : decode cX5_regretTimes 38 = .ok (.imul, 1) := by decide +kernel
theorem dX5_regretTimes_39 : decode cX5_regretTimes 39 = .ok (.ireturn, 1) := by decide +kernel
theorem dX5_brings_0 : decode cX5_brings 0 = .ok (.aload_n 0, 1) := by decide +kernel
theorem dX5_brings_1 : decode cX5_brings 1 = .ok (.getfield 16, 3) := by decide +kernel
theorem dX5_brings_4 : decode cX5_brings 4 = .ok (.aload_n 0, 1) := by decide +kernel
theorem dX5_brings_5 : decode cX5_brings 5 = .ok (.getfield 10, 3) := by decide +kernel
theorem dX5_brings_8 : decode cX5_brings 8 = .ok (.invokevirtual 59, 3) := by decide +kernel
theorem dX5_brings_11 : decode cX5_brings 11 = .ok (.aload_n 0, 1) := by decide +kernel
theorem dX5_brings_12 : decode cX5_brings 12 = .ok (.getfield 16, 3) := by decide +kernel
theorem dX5_brings_15 : decode cX5_brings 15 = .ok (.iload_n 1, 1) := by decide +kernel
theorem dX5_brings_16 : decode cX5_brings 16 = .ok (.iload_n 2, 1) := by decide +kernel
theorem dX5_brings_17 : decode cX5_brings 17 = .ok (.iload_n 3, 1) := by decide +kernel
theorem dX5_brings_18 : decode cX5_brings 18 = .ok (.invokevirtual 166, 3) := by decide +kernel
theorem dX5_brings_21 : decode cX5_brings 21 = .ok (.aload_n 0, 1) := by decide +kernel
theorem dX5_brings_22 : decode cX5_brings 22 = .ok (.getfield 10, 3) := by decide +kernel
theorem dX5_brings_25 : decode cX5_brings 25 = .ok (.invokevirtual 152, 3) := by decide +kernel
theorem dX5_brings_28 : decode cX5_brings 28 = .ok (.aload_n 0, 1) := by decide +kernel
theorem dX5_brings_29 : decode cX5_brings 29 = .ok (.getfield 16, 3) := by decide +kernel
theorem dX5_brings_32 : decode cX5_brings 32 = .ok (.invokevirtual 152, 3) := by decide +kernel
theorem dX5_brings_35 : decode cX5_brings 35 = .ok (.isub, 1) := by decide +kernel
theorem dX5_brings_36 : decode cX5_brings 36 = .ok (.ireturn, 1) := by decide +kernel
theorem dX5_chosen_0 : decode cX5_chosen 0 = .ok (.iload_n 1, 1) := by decide +kernel
theorem dX5_chosen_1 : decode cX5_chosen 1 = .ok (.ifCond .ne 11, 3) := by decide +kernel
theorem dX5_chosen_4 : decode cX5_chosen 4 = .ok (.aload_n 0, 1) := by decide +kernel
theorem dX5_chosen_5 : decode cX5_chosen 5 = .ok (.getfield 16, 3) := by decide +kernel
theorem dX5_chosen_8 : decode cX5_chosen 8 = .ok (.invokevirtual 139, 3) := by decide +kernel
theorem dX5_chosen_11 : decode cX5_chosen 11 = .ok (.ireturn, 1) := by decide +kernel
theorem dX5_chosen_12 : decode cX5_chosen 12 = .ok (.iload_n 1, 1) := by decide +kernel
theorem dX5_chosen_13 : decode cX5_chosen 13 = .ok (.iconst 1, 1) := by decide +kernel
theorem dX5_chosen_14 : decode cX5_chosen 14 = .ok (.if_icmp .ne 12, 3) := by decide +kernel
theorem dX5_chosen_17 : decode cX5_chosen 17 = .ok (.aload_n 0, 1) := by decide +kernel
theorem dX5_chosen_18 : decode cX5_chosen 18 = .ok (.getfield 16, 3) := by decide +kernel
theorem dX5_chosen_21 : decode cX5_chosen 21 = .ok (.iload_n 3, 1) := by decide +kernel
theorem dX5_chosen_22 : decode cX5_chosen 22 = .ok (.invokevirtual 142, 3) := by decide +kernel
theorem dX5_chosen_25 : decode cX5_chosen 25 = .ok (.ireturn, 1) := by decide +kernel
theorem dX5_chosen_26 : decode cX5_chosen 26 = .ok (.aload_n 0, 1) := by decide +kernel
theorem dX5_chosen_27 : decode cX5_chosen 27 = .ok (.getfield 16, 3) := by decide +kernel
theorem dX5_chosen_30 : decode cX5_chosen 30 = .ok (.getfield 193, 3) := by decide +kernel
theorem dX5_chosen_33 : decode cX5_chosen 33 = .ok (.ifCond .ne 6, 3) := by decide +kernel
theorem dX5_chosen_36 : decode cX5_chosen 36 = .ok (.bipush (-4), 2) := by decide +kernel
theorem dX5_chosen_38 : decode cX5_chosen 38 = .ok (.ireturn, 1) := by decide +kernel
theorem dX5_chosen_39 : decode cX5_chosen 39 = .ok (.iload_n 2, 1) := by decide +kernel
theorem dX5_chosen_40 : decode cX5_chosen 40 = .ok (.aload_n 0, 1) := by decide +kernel
theorem dX5_chosen_41 : decode cX5_chosen 41 = .ok (.getfield 16, 3) := by decide +kernel
theorem dX5_chosen_44 : decode cX5_chosen 44 = .ok (.getfield 193, 3) := by decide +kernel
theorem dX5_chosen_47 : decode cX5_chosen 47 = .ok (.irem, 1) := by decide +kernel
theorem dX5_chosen_48 : decode cX5_chosen 48 = .ok (.istore 4, 2) := by decide +kernel
theorem dX5_chosen_50 : decode cX5_chosen 50 = .ok (.aload_n 0, 1) := by decide +kernel
theorem dX5_chosen_51 : decode cX5_chosen 51 = .ok (.getfield 16, 3) := by decide +kernel
theorem dX5_chosen_54 : decode cX5_chosen 54 = .ok (.getfield 78, 3) := by decide +kernel
theorem dX5_chosen_57 : decode cX5_chosen 57 = .ok (.iload 4, 2) := by decide +kernel
theorem dX5_chosen_59 : decode cX5_chosen 59 = .ok (.aaload, 1) := by decide +kernel
theorem dX5_chosen_60 : decode cX5_chosen 60 = .ok (.invokevirtual 334, 3) := by decide +kernel
theorem dX5_chosen_63 : decode cX5_chosen 63 = .ok (.ifCond .eq 8, 3) := by decide +kernel
theorem dX5_chosen_66 : decode cX5_chosen 66 = .ok (.iload 4, 2) := by decide +kernel
theorem dX5_chosen_68 : decode cX5_chosen 68 = .ok (.goto 5, 3) := by decide +kernel
theorem dX5_chosen_71 : decode cX5_chosen 71 = .ok (.bipush (-4), 2) := by decide +kernel
theorem dX5_chosen_73 : decode cX5_chosen 73 = .ok (.ireturn, 1) := by decide +kernel
theorem dX5_gatherLine_0 : decode cX5_gatherLine 0 = .ok (.iconst 0, 1) := by decide +kernel
theorem dX5_gatherLine_1 : decode cX5_gatherLine 1 = .ok (.istore_n 1, 1) := by decide +kernel
theorem dX5_gatherLine_2 : decode cX5_gatherLine 2 = .ok (.iconst 0, 1) := by decide +kernel
theorem dX5_gatherLine_3 : decode cX5_gatherLine 3 = .ok (.istore_n 2, 1) := by decide +kernel
theorem dX5_gatherLine_4 : decode cX5_gatherLine 4 = .ok (.iload_n 2, 1) := by decide +kernel
theorem dX5_gatherLine_5 : decode cX5_gatherLine 5 = .ok (.aload_n 0, 1) := by decide +kernel
theorem dX5_gatherLine_6 : decode cX5_gatherLine 6 = .ok (.getfield 10, 3) := by decide +kernel
theorem dX5_gatherLine_9 : decode cX5_gatherLine 9 = .ok (.getfield 193, 3) := by decide +kernel
theorem dX5_gatherLine_12 : decode cX5_gatherLine 12 = .ok (.if_icmp .ge 53, 3) := by decide +kernel
theorem dX5_gatherLine_15 : decode cX5_gatherLine 15 = .ok (.aload_n 0, 1) := by decide +kernel
theorem dX5_gatherLine_16 : decode cX5_gatherLine 16 = .ok (.getfield 10, 3) := by decide +kernel
theorem dX5_gatherLine_19 : decode cX5_gatherLine 19 = .ok (.getfield 78, 3) := by decide +kernel
theorem dX5_gatherLine_22 : decode cX5_gatherLine 22 = .ok (.iload_n 2, 1) := by decide +kernel
theorem dX5_gatherLine_23 : decode cX5_gatherLine 23 = .ok (.aaload, 1) := by decide +kernel
theorem dX5_gatherLine_24 : decode cX5_gatherLine 24 = .ok (.astore_n 3, 1) := by decide +kernel
theorem dX5_gatherLine_25 : decode cX5_gatherLine 25 = .ok (.iconst 1, 1) := by decide +kernel
theorem dX5_gatherLine_26 : decode cX5_gatherLine 26 = .ok (.istore 4, 2) := by decide +kernel
theorem dX5_gatherLine_28 : decode cX5_gatherLine 28 = .ok (.iload 4, 2) := by decide +kernel
theorem dX5_gatherLine_30 : decode cX5_gatherLine 30 = .ok (.aload_n 3, 1) := by decide +kernel
theorem dX5_gatherLine_31 : decode cX5_gatherLine 31 = .ok (.getfield 90, 3) := by decide +kernel
theorem dX5_gatherLine_34 : decode cX5_gatherLine 34 = .ok (.if_icmp .ge 25, 3) := by decide +kernel
theorem dX5_gatherLine_37 : decode cX5_gatherLine 37 = .ok (.aload_n 0, 1) := by decide +kernel
theorem dX5_gatherLine_38 : decode cX5_gatherLine 38 = .ok (.getfield 36, 3) := by decide +kernel
theorem dX5_gatherLine_41 : decode cX5_gatherLine 41 = .ok (.iload_n 1, 1) := by decide +kernel
theorem dX5_gatherLine_42 : decode cX5_gatherLine 42 = .ok (.aload_n 3, 1) := by decide +kernel
theorem dX5_gatherLine_43 : decode cX5_gatherLine 43 = .ok (.getfield 117, 3) := by decide +kernel
theorem dX5_gatherLine_46 : decode cX5_gatherLine 46 = .ok (.iload 4, 2) := by decide +kernel
theorem dX5_gatherLine_48 : decode cX5_gatherLine 48 = .ok (.iaload, 1) := by decide +kernel
theorem dX5_gatherLine_49 : decode cX5_gatherLine 49 = .ok (.iastore, 1) := by decide +kernel
theorem dX5_gatherLine_50 : decode cX5_gatherLine 50 = .ok (.iinc 1 1, 3) := by decide +kernel
theorem dX5_gatherLine_53 : decode cX5_gatherLine 53 = .ok (.iinc 4 1, 3) := by decide +kernel
theorem dX5_gatherLine_56 : decode cX5_gatherLine 56 = .ok (.goto (-28), 3) := by decide +kernel
theorem dX5_gatherLine_59 : decode cX5_gatherLine 59 = .ok (.iinc 2 1, 3) := by decide +kernel
theorem dX5_gatherLine_62 : decode cX5_gatherLine 62 = .ok (.goto (-58), 3) := by decide +kernel
theorem dX5_gatherLine_65 : decode cX5_gatherLine 65 = .ok (.iload_n 1, 1) := by decide +kernel
theorem dX5_gatherLine_66 : decode cX5_gatherLine 66 = .ok (.ireturn, 1) := by decide +kernel
theorem dX5_gatherUsable_0 : decode cX5_gatherUsable 0 = .ok (.iconst 0, 1) := by decide +kernel
theorem dX5_gatherUsable_1 : decode cX5_gatherUsable 1 = .ok (.istore_n 1, 1) := by decide +kernel
theorem dX5_gatherUsable_2 : decode cX5_gatherUsable 2 = .ok (.iconst 0, 1) := by decide +kernel
theorem dX5_gatherUsable_3 : decode cX5_gatherUsable 3 = .ok (.istore_n 2, 1) := by decide +kernel
theorem dX5_gatherUsable_4 : decode cX5_gatherUsable 4 = .ok (.iload_n 2, 1) := by decide +kernel
theorem dX5_gatherUsable_5 : decode cX5_gatherUsable 5 = .ok (.aload_n 0, 1) := by decide +kernel
theorem dX5_gatherUsable_6 : decode cX5_gatherUsable 6 = .ok (.getfield 10, 3) := by decide +kernel
theorem dX5_gatherUsable_9 : decode cX5_gatherUsable 9 = .ok (.getfield 193, 3) := by decide +kernel
theorem dX5_gatherUsable_12 : decode cX5_gatherUsable 12 = .ok (.if_icmp .ge 35, 3) := by decide +kernel
theorem dX5_gatherUsable_15 : decode cX5_gatherUsable 15 = .ok (.aload_n 0, 1) := by decide +kernel
theorem dX5_gatherUsable_16 : decode cX5_gatherUsable 16 = .ok (.getfield 10, 3) := by decide +kernel
theorem dX5_gatherUsable_19 : decode cX5_gatherUsable 19 = .ok (.getfield 78, 3) := by decide +kernel
theorem dX5_gatherUsable_22 : decode cX5_gatherUsable 22 = .ok (.iload_n 2, 1) := by decide +kernel
theorem dX5_gatherUsable_23 : decode cX5_gatherUsable 23 = .ok (.aaload, 1) := by decide +kernel
theorem dX5_gatherUsable_24 : decode cX5_gatherUsable 24 = .ok (.getfield 82, 3) := by decide +kernel
theorem dX5_gatherUsable_27 : decode cX5_gatherUsable 27 = .ok (.iconst 5, 1) := by decide +kernel
theorem dX5_gatherUsable_28 : decode cX5_gatherUsable 28 = .ok (.if_icmp .eq 13, 3) := by decide +kernel
theorem dX5_gatherUsable_31 : decode cX5_gatherUsable 31 = .ok (.aload_n 0, 1) := by decide +kernel
theorem dX5_gatherUsable_32 : decode cX5_gatherUsable 32 = .ok (.getfield 39, 3) := by decide +kernel
theorem dX5_gatherUsable_35 : decode cX5_gatherUsable 35 = .ok (.iload_n 1, 1) := by decide +kernel
theorem dX5_gatherUsable_36 : decode cX5_gatherUsable 36 = .ok (.iload_n 2, 1) := by decide +kernel
theorem dX5_gatherUsable_37 : decode cX5_gatherUsable 37 = .ok (.iastore, 1) := by decide +kernel
theorem dX5_gatherUsable_38 : decode cX5_gatherUsable 38 = .ok (.iinc 1 1, 3) := by decide +kernel
theorem dX5_gatherUsable_41 : decode cX5_gatherUsable 41 = .ok (.iinc 2 1, 3) := by decide +kernel
theorem dX5_gatherUsable_44 : decode cX5_gatherUsable 44 = .ok (.goto (-40), 3) := by decide +kernel
theorem dX5_gatherUsable_47 : decode cX5_gatherUsable 47 = .ok (.iload_n 1, 1) := by decide +kernel
theorem dX5_gatherUsable_48 : decode cX5_gatherUsable 48 = .ok (.ireturn, 1) := by decide +kernel
theorem dX5_beginWithFirstOnes_0 : decode cX5_beginWithFirstOnes 0 = .ok (.iconst 0, 1) := by decide +kernel
theorem dX5_beginWithFirstOnes_1 : decode cX5_beginWithFirstOnes 1 = .ok (.istore_n 1, 1) := by decide +kernel
theorem dX5_beginWithFirstOnes_2 : decode cX5_beginWithFirstOnes 2 = .ok (.iconst 0, 1) := by decide +kernel
theorem dX5_beginWithFirstOnes_3 : decode cX5_beginWithFirstOnes 3 = .ok (.istore_n 2, 1) := by decide +kernel
theorem dX5_beginWithFirstOnes_4 : decode cX5_beginWithFirstOnes 4 = .ok (.iload_n 2, 1) := by decide +kernel
theorem dX5_beginWithFirstOnes_5 : decode cX5_beginWithFirstOnes 5 = .ok (.aload_n 0, 1) := by decide +kernel
theorem dX5_beginWithFirstOnes_6 : decode cX5_beginWithFirstOnes 6 = .ok (.getfield 10, 3) := by decide +kernel
theorem dX5_beginWithFirstOnes_9 : decode cX5_beginWithFirstOnes 9 = .ok (.getfield 193, 3) := by decide +kernel
theorem dX5_beginWithFirstOnes_12 : decode cX5_beginWithFirstOnes 12 = .ok (.if_icmp .ge 36, 3) := by decide +kernel
theorem dX5_beginWithFirstOnes_15 : decode cX5_beginWithFirstOnes 15 = .ok (.aload_n 0, 1) := by decide +kernel
theorem dX5_beginWithFirstOnes_16 : decode cX5_beginWithFirstOnes 16 = .ok (.getfield 32, 3) := by decide +kernel
theorem dX5_beginWithFirstOnes_19 : decode cX5_beginWithFirstOnes 19 = .ok (.iload_n 2, 1) := by decide +kernel
theorem dX5_beginWithFirstOnes_20 : decode cX5_beginWithFirstOnes 20 = .ok (.aload_n 0, 1) := by decide +kernel
theorem dX5_beginWithFirstOnes_21 : decode cX5_beginWithFirstOnes 21 = .ok (.getfield 10, 3) := by decide +kernel
theorem dX5_beginWithFirstOnes_24 : decode cX5_beginWithFirstOnes 24 = .ok (.getfield 78, 3) := by decide +kernel
theorem dX5_beginWithFirstOnes_27 : decode cX5_beginWithFirstOnes 27 = .ok (.iload_n 2, 1) := by decide +kernel
theorem dX5_beginWithFirstOnes_28 : decode cX5_beginWithFirstOnes 28 = .ok (.aaload, 1) := by decide +kernel
theorem dX5_beginWithFirstOnes_29 : decode cX5_beginWithFirstOnes 29 = .ok (.getfield 93, 3) := by decide +kernel
theorem dX5_beginWithFirstOnes_32 : decode cX5_beginWithFirstOnes 32 = .ok (.iastore, 1) := by decide +kernel
theorem dX5_beginWithFirstOnes_33 : decode cX5_beginWithFirstOnes 33 = .ok (.iload_n 1, 1) := by decide +kernel
theorem dX5_beginWithFirstOnes_34 : decode cX5_beginWithFirstOnes 34 = .ok (.aload_n 0, 1) := by decide +kernel
theorem dX5_beginWithFirstOnes_35 : decode cX5_beginWithFirstOnes 35 = .ok (.getfield 32, 3) := by decide +kernel
theorem dX5_beginWithFirstOnes_38 : decode cX5_beginWithFirstOnes 38 = .ok (.iload_n 2, 1) := by decide +kernel
theorem dX5_beginWithFirstOnes_39 : decode cX5_beginWithFirstOnes 39 = .ok (.iaload, 1) := by decide +kernel
theorem dX5_beginWithFirstOnes_40 : decode cX5_beginWithFirstOnes 40 = .ok (.iadd, 1) := by decide +kernel
theorem dX5_beginWithFirstOnes_41 : decode cX5_beginWithFirstOnes 41 = .ok (.istore_n 1, 1) := by decide +kernel
theorem dX5_beginWithFirstOnes_42 : decode cX5_beginWithFirstOnes 42 = .ok (.iinc 2 1, 3) := by decide +kernel
theorem dX5_beginWithFirstOnes_45 : decode cX5_beginWithFirstOnes 45 = .ok (.goto (-41), 3) := by decide +kernel
theorem dX5_beginWithFirstOnes_48 : decode cX5_beginWithFirstOnes 48 = .ok (.iload_n 1, 1) := by decide +kernel
theorem dX5_beginWithFirstOnes_49 : decode cX5_beginWithFirstOnes 49 = .ok (.ireturn, 1) := by decide +kernel
theorem dX5_goTo_0 : decode cX5_goTo 0 = .ok (.aload_n 0, 1) := by decide +kernel
theorem dX5_goTo_1 : decode cX5_goTo 1 = .ok (.getfield 32, 3) := by decide +kernel
theorem dX5_goTo_4 : decode cX5_goTo 4 = .ok (.iload_n 1, 1) := by decide +kernel
theorem dX5_goTo_5 : decode cX5_goTo 5 = .ok (.dup2, 1) := by decide +kernel
theorem dX5_goTo_6 : decode cX5_goTo 6 = .ok (.iaload, 1) := by decide +kernel
theorem dX5_goTo_7 : decode cX5_goTo 7 = .ok (.aload_n 0, 1) := by decide +kernel
theorem dX5_goTo_8 : decode cX5_goTo 8 = .ok (.getfield 10, 3) := by decide +kernel
theorem dX5_goTo_11 : decode cX5_goTo 11 = .ok (.getfield 78, 3) := by decide +kernel
theorem dX5_goTo_14 : decode cX5_goTo 14 = .ok (.iload_n 1, 1) := by decide +kernel
theorem dX5_goTo_15 : decode cX5_goTo 15 = .ok (.aaload, 1) := by decide +kernel
theorem dX5_goTo_16 : decode cX5_goTo 16 = .ok (.iload_n 2, 1) := by decide +kernel
theorem dX5_goTo_17 : decode cX5_goTo 17 = .ok (.invokevirtual 123, 3) := by decide +kernel
theorem dX5_goTo_20 : decode cX5_goTo 20 = .ok (.iadd, 1) := by decide +kernel
theorem dX5_goTo_21 : decode cX5_goTo 21 = .ok (.iastore, 1) := by decide +kernel
theorem dX5_goTo_22 : decode cX5_goTo 22 = .ok (.aload_n 0, 1) := by decide +kernel
theorem dX5_goTo_23 : decode cX5_goTo 23 = .ok (.getfield 32, 3) := by decide +kernel
theorem dX5_goTo_26 : decode cX5_goTo 26 = .ok (.iload_n 1, 1) := by decide +kernel
theorem dX5_goTo_27 : decode cX5_goTo 27 = .ok (.iaload, 1) := by decide +kernel
theorem dX5_goTo_28 : decode cX5_goTo 28 = .ok (.ireturn, 1) := by decide +kernel
theorem dX5_firstFree_0 : decode cX5_firstFree 0 = .ok (.iconst 0, 1) := by decide +kernel
theorem dX5_firstFree_1 : decode cX5_firstFree 1 = .ok (.istore_n 1, 1) := by decide +kernel
theorem dX5_firstFree_2 : decode cX5_firstFree 2 = .ok (.iconst 1, 1) := by decide +kernel
theorem dX5_firstFree_3 : decode cX5_firstFree 3 = .ok (.istore_n 2, 1) := by decide +kernel
theorem dX5_firstFree_4 : decode cX5_firstFree 4 = .ok (.iload_n 2, 1) := by decide +kernel
theorem dX5_firstFree_5 : decode cX5_firstFree 5 = .ok (.aload_n 0, 1) := by decide +kernel
theorem dX5_firstFree_6 : decode cX5_firstFree 6 = .ok (.getfield 10, 3) := by decide +kernel
theorem dX5_firstFree_9 : decode cX5_firstFree 9 = .ok (.getfield 193, 3) := by decide +kernel
theorem dX5_firstFree_12 : decode cX5_firstFree 12 = .ok (.if_icmp .ge 26, 3) := by decide +kernel
