theorem dX6_greatest_3 : decode cX6_greatest 3 = .ok (.istore 4, 2) := by decide +kernel
theorem dX6_greatest_5 : decode cX6_greatest 5 = .ok (.iload 4, 2) := by decide +kernel
theorem dX6_greatest_7 : decode cX6_greatest 7 = .ok (.iload_n 2, 1) := by decide +kernel
theorem dX6_greatest_8 : decode cX6_greatest 8 = .ok (.if_icmp .gt 52, 3) := by decide +kernel
theorem dX6_greatest_11 : decode cX6_greatest 11 = .ok (.aload_n 0, 1) := by decide +kernel
theorem dX6_greatest_12 : decode cX6_greatest 12 = .ok (.getfield 65, 3) := by decide +kernel
theorem dX6_greatest_15 : decode cX6_greatest 15 = .ok (.iload 4, 2) := by decide +kernel
theorem dX6_greatest_17 : decode cX6_greatest 17 = .ok (.iaload, 1) := by decide +kernel
theorem dX6_greatest_18 : decode cX6_greatest 18 = .ok (.ifCond .ge 14, 3) := by decide +kernel
theorem dX6_greatest_21 : decode cX6_greatest 21 = .ok (.aload_n 0, 1) := by decide +kernel
theorem dX6_greatest_22 : decode cX6_greatest 22 = .ok (.getfield 65, 3) := by decide +kernel
theorem dX6_greatest_25 : decode cX6_greatest 25 = .ok (.iload 4, 2) := by decide +kernel
theorem dX6_greatest_27 : decode cX6_greatest 27 = .ok (.iaload, 1) := by decide +kernel
theorem dX6_greatest_28 : decode cX6_greatest 28 = .ok (.ineg, 1) := by decide +kernel
theorem dX6_greatest_29 : decode cX6_greatest 29 = .ok (.goto 10, 3) := by decide +kernel
theorem dX6_greatest_32 : decode cX6_greatest 32 = .ok (.aload_n 0, 1) := by decide +kernel
theorem dX6_greatest_33 : decode cX6_greatest 33 = .ok (.getfield 65, 3) := by decide +kernel
theorem dX6_greatest_36 : decode cX6_greatest 36 = .ok (.iload 4, 2) := by decide +kernel
theorem dX6_greatest_38 : decode cX6_greatest 38 = .ok (.iaload, 1) := by decide +kernel
theorem dX6_greatest_39 : decode cX6_greatest 39 = .ok (.istore 5, 2) := by decide +kernel
theorem dX6_greatest_41 : decode cX6_greatest 41 = .ok (.iload 5, 2) := by decide +kernel
theorem dX6_greatest_43 : decode cX6_greatest 43 = .ok (.iload_n 3, 1) := by decide +kernel
theorem dX6_greatest_44 : decode cX6_greatest 44 = .ok (.if_icmp .le 8, 3) := by decide +kernel
theorem dX6_greatest_47 : decode cX6_greatest 47 = .ok (.iload 5, 2) := by decide +kernel
theorem dX6_greatest_49 : decode cX6_greatest 49 = .ok (.goto 4, 3) := by decide +kernel
theorem dX6_greatest_52 : decode cX6_greatest 52 = .ok (.iload_n 3, 1) := by decide +kernel
theorem dX6_greatest_53 : decode cX6_greatest 53 = .ok (.istore_n 3, 1) := by decide +kernel
theorem dX6_greatest_54 : decode cX6_greatest 54 = .ok (.iinc 4 1, 3) := by decide +kernel
theorem dX6_greatest_57 : decode cX6_greatest 57 = .ok (.goto (-52), 3) := by decide +kernel
theorem dX6_greatest_60 : decode cX6_greatest 60 = .ok (.iload_n 3, 1) := by decide +kernel
theorem dX6_greatest_61 : decode cX6_greatest 61 = .ok (.ireturn, 1) := by decide +kernel
theorem dX6_grows_0 : decode cX6_grows 0 = .ok (.aload_n 0, 1) := by decide +kernel
theorem dX6_grows_1 : decode cX6_grows 1 = .ok (.iconst 0, 1) := by decide +kernel
theorem dX6_grows_2 : decode cX6_grows 2 = .ok (.putfield 93, 3) := by decide +kernel
theorem dX6_grows_5 : decode cX6_grows 5 = .ok (.iload_n 1, 1) := by decide +kernel
theorem dX6_grows_6 : decode cX6_grows 6 = .ok (.iload_n 2, 1) := by decide +kernel
theorem dX6_grows_7 : decode cX6_grows 7 = .ok (.iload_n 3, 1) := by decide +kernel
theorem dX6_grows_8 : decode cX6_grows 8 = .ok (.invokestatic 301, 3) := by decide +kernel
theorem dX6_grows_11 : decode cX6_grows 11 = .ok (.ifCond .ne 5, 3) := by decide +kernel
theorem dX6_grows_14 : decode cX6_grows 14 = .ok (.iconst (-1), 1) := by decide +kernel
theorem dX6_grows_15 : decode cX6_grows 15 = .ok (.ireturn, 1) := by decide +kernel
theorem dX6_grows_16 : decode cX6_grows 16 = .ok (.aload_n 0, 1) := by decide +kernel
theorem dX6_grows_17 : decode cX6_grows 17 = .ok (.iload_n 1, 1) := by decide +kernel
theorem dX6_grows_18 : decode cX6_grows 18 = .ok (.iload_n 2, 1) := by decide +kernel
theorem dX6_grows_19 : decode cX6_grows 19 = .ok (.iload_n 3, 1) := by decide +kernel
theorem dX6_grows_20 : decode cX6_grows 20 = .ok (.invokevirtual 305, 3) := by decide +kernel
theorem dX6_grows_23 : decode cX6_grows 23 = .ok (.aload_n 0, 1) := by decide +kernel
theorem dX6_grows_24 : decode cX6_grows 24 = .ok (.bipush 31, 2) := by decide +kernel
theorem dX6_grows_26 : decode cX6_grows 26 = .ok (.bipush 60, 2) := by decide +kernel
theorem dX6_grows_28 : decode cX6_grows 28 = .ok (.invokevirtual 308, 3) := by decide +kernel
theorem dX6_grows_31 : decode cX6_grows 31 = .ok (.aload_n 0, 1) := by decide +kernel
theorem dX6_grows_32 : decode cX6_grows 32 = .ok (.iconst 1, 1) := by decide +kernel
theorem dX6_grows_33 : decode cX6_grows 33 = .ok (.bipush 30, 2) := by decide +kernel
theorem dX6_grows_35 : decode cX6_grows 35 = .ok (.invokevirtual 308, 3) := by decide +kernel
theorem dX6_grows_38 : decode cX6_grows 38 = .ok (.if_icmp .le 7, 3) := by decide +kernel
theorem dX6_grows_41 : decode cX6_grows 41 = .ok (.iconst 1, 1) := by decide +kernel
theorem dX6_grows_42 : decode cX6_grows 42 = .ok (.goto 4, 3) := by decide +kernel
theorem dX6_grows_45 : decode cX6_grows 45 = .ok (.iconst 0, 1) := by decide +kernel
theorem dX6_grows_46 : decode cX6_grows 46 = .ok (.ireturn, 1) := by decide +kernel
theorem dX6_other_0 : decode cX6_other 0 = .ok (.aload_n 0, 1) := by decide +kernel
theorem dX6_other_1 : decode cX6_other 1 = .ok (.iconst 0, 1) := by decide +kernel
theorem dX6_other_2 : decode cX6_other 2 = .ok (.putfield 93, 3) := by decide +kernel
theorem dX6_other_5 : decode cX6_other 5 = .ok (.iload_n 1, 1) := by decide +kernel
theorem dX6_other_6 : decode cX6_other 6 = .ok (.invokestatic 223, 3) := by decide +kernel
theorem dX6_other_9 : decode cX6_other 9 = .ok (.ifCond .eq 27, 3) := by decide +kernel
theorem dX6_other_12 : decode cX6_other 12 = .ok (.iload_n 2, 1) := by decide +kernel
theorem dX6_other_13 : decode cX6_other 13 = .ok (.i2l, 1) := by decide +kernel
theorem dX6_other_14 : decode cX6_other 14 = .ok (.lconst 0, 1) := by decide +kernel
theorem dX6_other_15 : decode cX6_other 15 = .ok (.ldc2_w 311, 3) := by decide +kernel
theorem dX6_other_18 : decode cX6_other 18 = .ok (.invokestatic 100, 3) := by decide +kernel
theorem dX6_other_21 : decode cX6_other 21 = .ok (.ifCond .eq 15, 3) := by decide +kernel
theorem dX6_other_24 : decode cX6_other 24 = .ok (.iload_n 3, 1) := by decide +kernel
theorem dX6_other_25 : decode cX6_other 25 = .ok (.i2l, 1) := by decide +kernel
theorem dX6_other_26 : decode cX6_other 26 = .ok (.lconst 0, 1) := by decide +kernel
theorem dX6_other_27 : decode cX6_other 27 = .ok (.ldc2_w 311, 3) := by decide +kernel
theorem dX6_other_30 : decode cX6_other 30 = .ok (.invokestatic 100, 3) := by decide +kernel
theorem dX6_other_33 : decode cX6_other 33 = .ok (.ifCond .ne 5, 3) := by decide +kernel
theorem dX6_other_36 : decode cX6_other 36 = .ok (.iconst (-1), 1) := by decide +kernel
theorem dX6_other_37 : decode cX6_other 37 = .ok (.ireturn, 1) := by decide +kernel
theorem dX6_other_38 : decode cX6_other 38 = .ok (.aload_n 0, 1) := by decide +kernel
theorem dX6_other_39 : decode cX6_other 39 = .ok (.iload_n 1, 1) := by decide +kernel
theorem dX6_other_40 : decode cX6_other 40 = .ok (.invokevirtual 237, 3) := by decide +kernel
theorem dX6_other_43 : decode cX6_other 43 = .ok (.istore 4, 2) := by decide +kernel
theorem dX6_other_45 : decode cX6_other 45 = .ok (.iload 4, 2) := by decide +kernel
theorem dX6_other_47 : decode cX6_other 47 = .ok (.ifCond .lt 16, 3) := by decide +kernel
theorem dX6_other_50 : decode cX6_other 50 = .ok (.iload_n 2, 1) := by decide +kernel
theorem dX6_other_51 : decode cX6_other 51 = .ok (.iload_n 3, 1) := by decide +kernel
theorem dX6_other_52 : decode cX6_other 52 = .ok (.iadd, 1) := by decide +kernel
theorem dX6_other_53 : decode cX6_other 53 = .ok (.aload_n 0, 1) := by decide +kernel
theorem dX6_other_54 : decode cX6_other 54 = .ok (.iload 4, 2) := by decide +kernel
theorem dX6_other_56 : decode cX6_other 56 = .ok (.iload_n 1, 1) := by decide +kernel
theorem dX6_other_57 : decode cX6_other 57 = .ok (.invokevirtual 226, 3) := by decide +kernel
theorem dX6_other_60 : decode cX6_other 60 = .ok (.if_icmp .ge 7, 3) := by decide +kernel
theorem dX6_other_63 : decode cX6_other 63 = .ok (.iconst 1, 1) := by decide +kernel
theorem dX6_other_64 : decode cX6_other 64 = .ok (.goto 4, 3) := by decide +kernel
theorem dX6_other_67 : decode cX6_other 67 = .ok (.iconst 0, 1) := by decide +kernel
theorem dX6_other_68 : decode cX6_other 68 = .ok (.ireturn, 1) := by decide +kernel
theorem dX6_draw_0 : decode cX6_draw 0 = .ok (.aload_n 0, 1) := by decide +kernel
theorem dX6_draw_1 : decode cX6_draw 1 = .ok (.aload_n 0, 1) := by decide +kernel
theorem dX6_draw_2 : decode cX6_draw 2 = .ok (.getfield 313, 3) := by decide +kernel
theorem dX6_draw_5 : decode cX6_draw 5 = .ok (.ldc_w 316, 3) := by decide +kernel
theorem dX6_draw_8 : decode cX6_draw 8 = .ok (.imul, 1) := by decide +kernel
theorem dX6_draw_9 : decode cX6_draw 9 = .ok (.sipush 12345, 3) := by decide +kernel
theorem dX6_draw_12 : decode cX6_draw 12 = .ok (.iadd, 1) := by decide +kernel
theorem dX6_draw_13 : decode cX6_draw 13 = .ok (.putfield 313, 3) := by decide +kernel
theorem dX6_draw_16 : decode cX6_draw 16 = .ok (.aload_n 0, 1) := by decide +kernel
theorem dX6_draw_17 : decode cX6_draw 17 = .ok (.getfield 313, 3) := by decide +kernel
theorem dX6_draw_20 : decode cX6_draw 20 = .ok (.ldc_w 317, 3) := by decide +kernel
theorem dX6_draw_23 : decode cX6_draw 23 = .ok (.iand, 1) := by decide +kernel
theorem dX6_draw_24 : decode cX6_draw 24 = .ok (.ldc_w 318, 3) := by decide +kernel
theorem dX6_draw_27 : decode cX6_draw 27 = .ok (.idiv, 1) := by decide +kernel
theorem dX6_draw_28 : decode cX6_draw 28 = .ok (.iload_n 1, 1) := by decide +kernel
theorem dX6_draw_29 : decode cX6_draw 29 = .ok (.irem, 1) := by decide +kernel
theorem dX6_draw_30 : decode cX6_draw 30 = .ok (.ireturn, 1) := by decide +kernel
theorem dX6_carsThere_0 : decode cX6_carsThere 0 = .ok (.iconst 0, 1) := by decide +kernel
theorem dX6_carsThere_1 : decode cX6_carsThere 1 = .ok (.istore_n 1, 1) := by decide +kernel
theorem dX6_carsThere_2 : decode cX6_carsThere 2 = .ok (.iconst 0, 1) := by decide +kernel
theorem dX6_carsThere_3 : decode cX6_carsThere 3 = .ok (.istore_n 2, 1) := by decide +kernel
theorem dX6_carsThere_4 : decode cX6_carsThere 4 = .ok (.iload_n 2, 1) := by decide +kernel
theorem dX6_carsThere_5 : decode cX6_carsThere 5 = .ok (.aload_n 0, 1) := by decide +kernel
theorem dX6_carsThere_6 : decode cX6_carsThere 6 = .ok (.getfield 97, 3) := by decide +kernel
theorem dX6_carsThere_9 : decode cX6_carsThere 9 = .ok (.if_icmp .ge 18, 3) := by decide +kernel
theorem dX6_carsThere_12 : decode cX6_carsThere 12 = .ok (.iload_n 1, 1) := by decide +kernel
theorem dX6_carsThere_13 : decode cX6_carsThere 13 = .ok (.aload_n 0, 1) := by decide +kernel
theorem dX6_carsThere_14 : decode cX6_carsThere 14 = .ok (.getfield 16, 3) := by decide +kernel
theorem dX6_carsThere_17 : decode cX6_carsThere 17 = .ok (.iload_n 2, 1) := by decide +kernel
theorem dX6_carsThere_18 : decode cX6_carsThere 18 = .ok (.iaload, 1) := by decide +kernel
theorem dX6_carsThere_19 : decode cX6_carsThere 19 = .ok (.iadd, 1) := by decide +kernel
theorem dX6_carsThere_20 : decode cX6_carsThere 20 = .ok (.istore_n 1, 1) := by decide +kernel
theorem dX6_carsThere_21 : decode cX6_carsThere 21 = .ok (.iinc 2 1, 3) := by decide +kernel
theorem dX6_carsThere_24 : decode cX6_carsThere 24 = .ok (.goto (-20), 3) := by decide +kernel
theorem dX6_carsThere_27 : decode cX6_carsThere 27 = .ok (.iload_n 1, 1) := by decide +kernel
theorem dX6_carsThere_28 : decode cX6_carsThere 28 = .ok (.ireturn, 1) := by decide +kernel
theorem dX6_seeded_0 : decode cX6_seeded 0 = .ok (.aload_n 0, 1) := by decide +kernel
theorem dX6_seeded_1 : decode cX6_seeded 1 = .ok (.iconst 0, 1) := by decide +kernel
theorem dX6_seeded_2 : decode cX6_seeded 2 = .ok (.putfield 93, 3) := by decide +kernel
theorem dX6_seeded_5 : decode cX6_seeded 5 = .ok (.iload_n 1, 1) := by decide +kernel
theorem dX6_seeded_6 : decode cX6_seeded 6 = .ok (.i2l, 1) := by decide +kernel
theorem dX6_seeded_7 : decode cX6_seeded 7 = .ok (.lconst 1, 1) := by decide +kernel
theorem dX6_seeded_8 : decode cX6_seeded 8 = .ok (.ldc2_w 319, 3) := by decide +kernel
theorem dX6_seeded_11 : decode cX6_seeded 11 = .ok (.invokestatic 100, 3) := by decide +kernel
theorem dX6_seeded_14 : decode cX6_seeded 14 = .ok (.ifCond .eq 13, 3) := by decide +kernel
theorem dX6_seeded_17 : decode cX6_seeded 17 = .ok (.iload_n 3, 1) := by decide +kernel
theorem dX6_seeded_18 : decode cX6_seeded 18 = .ok (.i2l, 1) := by decide +kernel
theorem dX6_seeded_19 : decode cX6_seeded 19 = .ok (.lconst 0, 1) := by decide +kernel
theorem dX6_seeded_20 : decode cX6_seeded 20 = .ok (.lconst 1, 1) := by decide +kernel
theorem dX6_seeded_21 : decode cX6_seeded 21 = .ok (.invokestatic 100, 3) := by decide +kernel
theorem dX6_seeded_24 : decode cX6_seeded 24 = .ok (.ifCond .ne 5, 3) := by decide +kernel
theorem dX6_seeded_27 : decode cX6_seeded 27 = .ok (.iconst (-1), 1) := by decide +kernel
theorem dX6_seeded_28 : decode cX6_seeded 28 = .ok (.ireturn, 1) := by decide +kernel
theorem dX6_seeded_29 : decode cX6_seeded 29 = .ok (.aload_n 0, 1) := by decide +kernel
theorem dX6_seeded_30 : decode cX6_seeded 30 = .ok (.invokevirtual 203, 3) := by decide +kernel
theorem dX6_seeded_33 : decode cX6_seeded 33 = .ok (.aload_n 0, 1) := by decide +kernel
theorem dX6_seeded_34 : decode cX6_seeded 34 = .ok (.iload_n 2, 1) := by decide +kernel
theorem dX6_seeded_35 : decode cX6_seeded 35 = .ok (.putfield 313, 3) := by decide +kernel
theorem dX6_seeded_38 : decode cX6_seeded 38 = .ok (.iconst 0, 1) := by decide +kernel
theorem dX6_seeded_39 : decode cX6_seeded 39 = .ok (.istore 4, 2) := by decide +kernel
theorem dX6_seeded_41 : decode cX6_seeded 41 = .ok (.iconst 0, 1) := by decide +kernel
theorem dX6_seeded_42 : decode cX6_seeded 42 = .ok (.istore 5, 2) := by decide +kernel
theorem dX6_seeded_44 : decode cX6_seeded 44 = .ok (.iload 5, 2) := by decide +kernel
theorem dX6_seeded_46 : decode cX6_seeded 46 = .ok (.iload_n 1, 1) := by decide +kernel
theorem dX6_seeded_47 : decode cX6_seeded 47 = .ok (.if_icmp .ge 48, 3) := by decide +kernel
theorem dX6_seeded_50 : decode cX6_seeded 50 = .ok (.aload_n 0, 1) := by decide +kernel
theorem dX6_seeded_51 : decode cX6_seeded 51 = .ok (.aload_n 0, 1) := by decide +kernel
theorem dX6_seeded_52 : decode cX6_seeded 52 = .ok (.iconst 4, 1) := by decide +kernel
theorem dX6_seeded_53 : decode cX6_seeded 53 = .ok (.invokevirtual 321, 3) := by decide +kernel
theorem dX6_seeded_56 : decode cX6_seeded 56 = .ok (.invokevirtual 191, 3) := by decide +kernel
theorem dX6_seeded_59 : decode cX6_seeded 59 = .ok (.pop, 1) := by decide +kernel
theorem dX6_seeded_60 : decode cX6_seeded 60 = .ok (.aload_n 0, 1) := by decide +kernel
theorem dX6_seeded_61 : decode cX6_seeded 61 = .ok (.iconst 4, 1) := by decide +kernel
theorem dX6_seeded_62 : decode cX6_seeded 62 = .ok (.invokevirtual 321, 3) := by decide +kernel
theorem dX6_seeded_65 : decode cX6_seeded 65 = .ok (.istore 6, 2) := by decide +kernel
theorem dX6_seeded_67 : decode cX6_seeded 67 = .ok (.aload_n 0, 1) := by decide +kernel
theorem dX6_seeded_68 : decode cX6_seeded 68 = .ok (.invokevirtual 234, 3) := by decide +kernel
theorem dX6_seeded_71 : decode cX6_seeded 71 = .ok (.istore 7, 2) := by decide +kernel
theorem dX6_seeded_73 : decode cX6_seeded 73 = .ok (.iload 7, 2) := by decide +kernel
theorem dX6_seeded_75 : decode cX6_seeded 75 = .ok (.ifCond .lt 14, 3) := by decide +kernel
theorem dX6_seeded_78 : decode cX6_seeded 78 = .ok (.aload_n 0, 1) := by decide +kernel
theorem dX6_seeded_79 : decode cX6_seeded 79 = .ok (.iload 7, 2) := by decide +kernel
theorem dX6_seeded_81 : decode cX6_seeded 81 = .ok (.iload 6, 2) := by decide +kernel
theorem dX6_seeded_83 : decode cX6_seeded 83 = .ok (.invokevirtual 185, 3) := by decide +kernel
theorem dX6_seeded_86 : decode cX6_seeded 86 = .ok (.iinc 4 1, 3) := by decide +kernel
theorem dX6_seeded_89 : decode cX6_seeded 89 = .ok (.iinc 5 1, 3) := by decide +kernel
theorem dX6_seeded_92 : decode cX6_seeded 92 = .ok (.goto (-48), 3) := by decide +kernel
theorem dX6_seeded_95 : decode cX6_seeded 95 = .ok (.iload_n 3, 1) := by decide +kernel
theorem dX6_seeded_96 : decode cX6_seeded 96 = .ok (.ifCond .ne 8, 3) := by decide +kernel
theorem dX6_seeded_99 : decode cX6_seeded 99 = .ok (.iload 4, 2) := by decide +kernel
theorem dX6_seeded_101 : decode cX6_seeded 101 = .ok (.goto 7, 3) := by decide +kernel
theorem dX6_seeded_104 : decode cX6_seeded 104 = .ok (.aload_n 0, 1) := by decide +kernel
theorem dX6_seeded_105 : decode cX6_seeded 105 = .ok (.invokevirtual 324, 3) := by decide +kernel
theorem dX6_seeded_108 : decode cX6_seeded 108 = .ok (.istore 5, 2) := by decide +kernel
theorem dX6_seeded_110 : decode cX6_seeded 110 = .ok (.aload_n 0, 1) := by decide +kernel
theorem dX6_seeded_111 : decode cX6_seeded 111 = .ok (.invokevirtual 209, 3) := by decide +kernel
theorem dX6_seeded_114 : decode cX6_seeded 114 = .ok (.iload 5, 2) := by decide +kernel
theorem dX6_seeded_116 : decode cX6_seeded 116 = .ok (.ireturn, 1) := by decide +kernel
theorem dX6_skippedIn_0 : decode cX6_skippedIn 0 = .ok (.aload_n 0, 1) := by decide +kernel
theorem dX6_skippedIn_1 : decode cX6_skippedIn 1 = .ok (.getfield 80, 3) := by decide +kernel
theorem dX6_skippedIn_4 : decode cX6_skippedIn 4 = .ok (.iload_n 1, 1) := by decide +kernel
theorem dX6_skippedIn_5 : decode cX6_skippedIn 5 = .ok (.iaload, 1) := by decide +kernel
theorem dX6_skippedIn_6 : decode cX6_skippedIn 6 = .ok (.ifCond .ne 9, 3) := by decide +kernel
theorem dX6_skippedIn_9 : decode cX6_skippedIn 9 = .ok (.ldc2_w 327, 3) := by decide +kernel
theorem dX6_skippedIn_12 : decode cX6_skippedIn 12 = .ok (.goto 22, 3) := by decide +kernel
theorem dX6_skippedIn_15 : decode cX6_skippedIn 15 = .ok (.aload_n 0, 1) := by decide +kernel
theorem dX6_skippedIn_16 : decode cX6_skippedIn 16 = .ok (.getfield 80, 3) := by decide +kernel
theorem dX6_skippedIn_19 : decode cX6_skippedIn 19 = .ok (.iload_n 1, 1) := by decide +kernel
theorem dX6_skippedIn_20 : decode cX6_skippedIn 20 = .ok (.iaload, 1) := by decide +kernel
theorem dX6_skippedIn_21 : decode cX6_skippedIn 21 = .ok (.iconst 1, 1) := by decide +kernel
theorem dX6_skippedIn_22 : decode cX6_skippedIn 22 = .ok (.if_icmp .ne 9, 3) := by decide +kernel
theorem dX6_skippedIn_25 : decode cX6_skippedIn 25 = .ok (.ldc2_w 329, 3) := by decide +kernel
theorem dX6_skippedIn_28 : decode cX6_skippedIn 28 = .ok (.goto 6, 3) := by decide +kernel
theorem dX6_skippedIn_31 : decode cX6_skippedIn 31 = .ok (.ldc2_w 331, 3) := by decide +kernel
theorem dX6_skippedIn_34 : decode cX6_skippedIn 34 = .ok (.lreturn, 1) := by decide +kernel
theorem dX6_judge_0 : decode cX6_judge 0 = .ok (.aload_n 0, 1) := by decide +kernel
theorem dX6_judge_1 : decode cX6_judge 1 = .ok (.iconst 0, 1) := by decide +kernel
theorem dX6_judge_2 : decode cX6_judge 2 = .ok (.putfield 93, 3) := by decide +kernel
theorem dX6_judge_5 : decode cX6_judge 5 = .ok (.aload_n 0, 1) := by decide +kernel
theorem dX6_judge_6 : decode cX6_judge 6 = .ok (.iload_n 1, 1) := by decide +kernel
theorem dX6_judge_7 : decode cX6_judge 7 = .ok (.invokevirtual 194, 3) := by decide +kernel
theorem dX6_judge_10 : decode cX6_judge 10 = .ok (.ifCond .eq 11, 3) := by decide +kernel
theorem dX6_judge_13 : decode cX6_judge 13 = .ok (.aload_n 0, 1) := by decide +kernel
theorem dX6_judge_14 : decode cX6_judge 14 = .ok (.iload_n 2, 1) := by decide +kernel
theorem dX6_judge_15 : decode cX6_judge 15 = .ok (.invokevirtual 333, 3) := by decide +kernel
theorem dX6_judge_18 : decode cX6_judge 18 = .ok (.ifCond .ge 21, 3) := by decide +kernel
theorem dX6_judge_21 : decode cX6_judge 21 = .ok (.aload_n 0, 1) := by decide +kernel
theorem dX6_judge_22 : decode cX6_judge 22 = .ok (.iload_n 1, 1) := by decide +kernel
theorem dX6_judge_23 : decode cX6_judge 23 = .ok (.invokevirtual 194, 3) := by decide +kernel
theorem dX6_judge_26 : decode cX6_judge 26 = .ok (.ifCond .ne 7, 3) := by decide +kernel
theorem dX6_judge_29 : decode cX6_judge 29 = .ok (.iconst (-1), 1) := by decide +kernel
theorem dX6_judge_30 : decode cX6_judge 30 = .ok (.goto 8, 3) := by decide +kernel
theorem dX6_judge_33 : decode cX6_judge 33 = .ok (.aload_n 0, 1) := by decide +kernel
theorem dX6_judge_34 : decode cX6_judge 34 = .ok (.iload_n 2, 1) := by decide +kernel
theorem dX6_judge_35 : decode cX6_judge 35 = .ok (.invokevirtual 333, 3) := by decide +kernel
theorem dX6_judge_38 : decode cX6_judge 38 = .ok (.ireturn, 1) := by decide +kernel
theorem dX6_judge_39 : decode cX6_judge 39 = .ok (.aload_n 0, 1) := by decide +kernel
theorem dX6_judge_40 : decode cX6_judge 40 = .ok (.invokevirtual 203, 3) := by decide +kernel
theorem dX6_judge_43 : decode cX6_judge 43 = .ok (.bipush (-4), 2) := by decide +kernel
theorem dX6_judge_45 : decode cX6_judge 45 = .ok (.istore_n 3, 1) := by decide +kernel
theorem dX6_judge_46 : decode cX6_judge 46 = .ok (.iconst 0, 1) := by decide +kernel
theorem dX6_judge_47 : decode cX6_judge 47 = .ok (.istore 4, 2) := by decide +kernel
theorem dX6_judge_49 : decode cX6_judge 49 = .ok (.iload 4, 2) := by decide +kernel
theorem dX6_judge_51 : decode cX6_judge 51 = .ok (.aload_n 0, 1) := by decide +kernel
theorem dX6_judge_52 : decode cX6_judge 52 = .ok (.getfield 83, 3) := by decide +kernel
theorem dX6_judge_55 : decode cX6_judge 55 = .ok (.iload_n 2, 1) := by decide +kernel
theorem dX6_judge_56 : decode cX6_judge 56 = .ok (.iaload, 1) := by decide +kernel
theorem dX6_judge_57 : decode cX6_judge 57 = .ok (.if_icmp .ge 64, 3) := by decide +kernel
theorem dX6_judge_60 : decode cX6_judge 60 = .ok (.iload_n 3, 1) := by decide +kernel
theorem dX6_judge_61 : decode cX6_judge 61 = .ok (.ifCond .ge 60, 3) := by decide +kernel
theorem dX6_judge_64 : decode cX6_judge 64 = .ok (.aload_n 0, 1) := by decide +kernel
theorem dX6_judge_65 : decode cX6_judge 65 = .ok (.invokevirtual 136, 3) := by decide +kernel
theorem dX6_judge_68 : decode cX6_judge 68 = .ok (.pop, 1) := by decide +kernel
theorem dX6_judge_69 : decode cX6_judge 69 = .ok (.aload_n 0, 1) := by decide +kernel
theorem dX6_judge_70 : decode cX6_judge 70 = .ok (.getfield 86, 3) := by decide +kernel
theorem dX6_judge_73 : decode cX6_judge 73 = .ok (.bipush 100, 2) := by decide +kernel
theorem dX6_judge_75 : decode cX6_judge 75 = .ok (.iload_n 2, 1) := by decide +kernel
theorem dX6_judge_76 : decode cX6_judge 76 = .ok (.imul, 1) := by decide +kernel
theorem dX6_judge_77 : decode cX6_judge 77 = .ok (.iload 4, 2) := by decide +kernel
theorem dX6_judge_79 : decode cX6_judge 79 = .ok (.iadd, 1) := by decide +kernel
theorem dX6_judge_80 : decode cX6_judge 80 = .ok (.laload, 1) := by decide +kernel
theorem dX6_judge_81 : decode cX6_judge 81 = .ok (.lstore 5, 2) := by decide +kernel
theorem dX6_judge_83 : decode cX6_judge 83 = .ok (.lload 5, 2) := by decide +kernel
theorem dX6_judge_85 : decode cX6_judge 85 = .ok (.aload_n 0, 1) := by decide +kernel
theorem dX6_judge_86 : decode cX6_judge 86 = .ok (.iload_n 2, 1) := by decide +kernel
theorem dX6_judge_87 : decode cX6_judge 87 = .ok (.invokevirtual 336, 3) := by decide +kernel
theorem dX6_judge_90 : decode cX6_judge 90 = .ok (.lcmp, 1) := by decide +kernel
theorem dX6_judge_91 : decode cX6_judge 91 = .ok (.ifCond .eq 16, 3) := by decide +kernel
theorem dX6_judge_94 : decode cX6_judge 94 = .ok (.lload 5, 2) := by decide +kernel
theorem dX6_judge_96 : decode cX6_judge 96 = .ok (.aload_n 0, 1) := by decide +kernel
theorem dX6_judge_97 : decode cX6_judge 97 = .ok (.getfield 16, 3) := by decide +kernel
theorem dX6_judge_100 : decode cX6_judge 100 = .ok (.iload_n 1, 1) := by decide +kernel
theorem dX6_judge_101 : decode cX6_judge 101 = .ok (.iaload, 1) := by decide +kernel
theorem dX6_judge_102 : decode cX6_judge 102 = .ok (.i2l, 1) := by decide +kernel
theorem dX6_judge_103 : decode cX6_judge 103 = .ok (.lcmp, 1) := by decide +kernel
theorem dX6_judge_104 : decode cX6_judge 104 = .ok (.ifCond .ne 8, 3) := by decide +kernel
theorem dX6_judge_107 : decode cX6_judge 107 = .ok (.bipush (-4), 2) := by decide +kernel
theorem dX6_judge_109 : decode cX6_judge 109 = .ok (.goto 5, 3) := by decide +kernel
theorem dX6_judge_112 : decode cX6_judge 112 = .ok (.iload 4, 2) := by decide +kernel
theorem dX6_judge_114 : decode cX6_judge 114 = .ok (.istore_n 3, 1) := by decide +kernel
theorem dX6_judge_115 : decode cX6_judge 115 = .ok (.iinc 4 1, 3) := by decide +kernel
theorem dX6_judge_118 : decode cX6_judge 118 = .ok (.goto (-69), 3) := by decide +kernel
theorem dX6_judge_121 : decode cX6_judge 121 = .ok (.aload_n 0, 1) := by decide +kernel
theorem dX6_judge_122 : decode cX6_judge 122 = .ok (.invokevirtual 209, 3) := by decide +kernel
theorem dX6_judge_125 : decode cX6_judge 125 = .ok (.iload_n 3, 1) := by decide +kernel
theorem dX6_judge_126 : decode cX6_judge 126 = .ok (.ireturn, 1) := by decide +kernel
theorem dX6_count_0 : decode cX6_count 0 = .ok (.aload_n 0, 1) := by decide +kernel
theorem dX6_count_1 : decode cX6_count 1 = .ok (.iconst 0, 1) := by decide +kernel
theorem dX6_count_2 : decode cX6_count 2 = .ok (.putfield 93, 3) := by decide +kernel
theorem dX6_count_5 : decode cX6_count 5 = .ok (.iconst 0, 1) := by decide +kernel
theorem dX6_count_6 : decode cX6_count 6 = .ok (.istore_n 2, 1) := by decide +kernel
theorem dX6_count_7 : decode cX6_count 7 = .ok (.iconst 0, 1) := by decide +kernel
theorem dX6_count_8 : decode cX6_count 8 = .ok (.istore_n 3, 1) := by decide +kernel
theorem dX6_count_9 : decode cX6_count 9 = .ok (.iconst 0, 1) := by decide +kernel
theorem dX6_count_10 : decode cX6_count 10 = .ok (.istore 4, 2) := by decide +kernel
theorem dX6_count_12 : decode cX6_count 12 = .ok (.iload 4, 2) := by decide +kernel
theorem dX6_count_14 : decode cX6_count 14 = .ok (.aload_n 0, 1) := by decide +kernel
theorem dX6_count_15 : decode cX6_count 15 = .ok (.getfield 97, 3) := by decide +kernel
theorem dX6_count_18 : decode cX6_count 18 = .ok (.if_icmp .ge 47, 3) := by decide +kernel
theorem dX6_count_21 : decode cX6_count 21 = .ok (.iload_n 2, 1) := by decide +kernel
theorem dX6_count_22 : decode cX6_count 22 = .ok (.aload_n 0, 1) := by decide +kernel
theorem dX6_count_23 : decode cX6_count 23 = .ok (.iload 4, 2) := by decide +kernel
theorem dX6_count_25 : decode cX6_count 25 = .ok (.invokevirtual 231, 3) := by decide +kernel
theorem dX6_count_28 : decode cX6_count 28 = .ok (.ifCond .eq 7, 3) := by decide +kernel
theorem dX6_count_31 : decode cX6_count 31 = .ok (.iconst 1, 1) := by decide +kernel
theorem dX6_count_32 : decode cX6_count 32 = .ok (.goto 4, 3) := by decide +kernel
theorem dX6_count_35 : decode cX6_count 35 = .ok (.iconst 0, 1) := by decide +kernel
theorem dX6_count_36 : decode cX6_count 36 = .ok (.iadd, 1) := by decide +kernel
theorem dX6_count_37 : decode cX6_count 37 = .ok (.istore_n 2, 1) := by decide +kernel
theorem dX6_count_38 : decode cX6_count 38 = .ok (.aload_n 0, 1) := by decide +kernel
theorem dX6_count_39 : decode cX6_count 39 = .ok (.iload 4, 2) := by decide +kernel
theorem dX6_count_41 : decode cX6_count 41 = .ok (.invokevirtual 123, 3) := by decide +kernel
theorem dX6_count_44 : decode cX6_count 44 = .ok (.iload_n 3, 1) := by decide +kernel
theorem dX6_count_45 : decode cX6_count 45 = .ok (.if_icmp .le 12, 3) := by decide +kernel
theorem dX6_count_48 : decode cX6_count 48 = .ok (.aload_n 0, 1) := by decide +kernel
theorem dX6_count_49 : decode cX6_count 49 = .ok (.iload 4, 2) := by decide +kernel
theorem dX6_count_51 : decode cX6_count 51 = .ok (.invokevirtual 123, 3) := by decide +kernel
theorem dX6_count_54 : decode cX6_count 54 = .ok (.goto 4, 3) := by decide +kernel
theorem dX6_count_57 : decode cX6_count 57 = .ok (.iload_n 3, 1) := by decide +kernel
theorem dX6_count_58 : decode cX6_count 58 = .ok (.istore_n 3, 1) := by decide +kernel
theorem dX6_count_59 : decode cX6_count 59 = .ok (.iinc 4 1, 3) := by decide +kernel
theorem dX6_count_62 : decode cX6_count 62 = .ok (.goto (-50), 3) := by decide +kernel
theorem dX6_count_65 : decode cX6_count 65 = .ok (.iload_n 1, 1) := by decide +kernel
theorem dX6_count_66 : decode cX6_count 66 = .ok (.tableswitch 62 0 5 #[38, 43, 48, 53, 58, 60], 38) := by decide +kernel
theorem dX6_count_104 : decode cX6_count 104 = .ok (.aload_n 0, 1) := by decide +kernel
theorem dX6_count_105 : decode cX6_count 105 = .ok (.getfield 97, 3) := by decide +kernel
theorem dX6_count_108 : decode cX6_count 108 = .ok (.ireturn, 1) := by decide +kernel
theorem dX6_count_109 : decode cX6_count 109 = .ok (.aload_n 0, 1) := by decide +kernel
theorem dX6_count_110 : decode cX6_count 110 = .ok (.invokevirtual 324, 3) := by decide +kernel
theorem dX6_count_113 : decode cX6_count 113 = .ok (.ireturn, 1) := by decide +kernel
theorem dX6_count_114 : decode cX6_count 114 = .ok (.aload_n 0, 1) := by decide +kernel
theorem dX6_count_115 : decode cX6_count 115 = .ok (.getfield 126, 3) := by decide +kernel
theorem dX6_count_118 : decode cX6_count 118 = .ok (.ireturn, 1) := by decide +kernel
theorem dX6_count_119 : decode cX6_count 119 = .ok (.aload_n 0, 1) := by decide +kernel
theorem dX6_count_120 : decode cX6_count 120 = .ok (.getfield 133, 3) := by decide +kernel
theorem dX6_count_123 : decode cX6_count 123 = .ok (.ireturn, 1) := by decide +kernel
theorem dX6_count_124 : decode cX6_count 124 = .ok (.iload_n 2, 1) := by decide +kernel
theorem dX6_count_125 : decode cX6_count 125 = .ok (.ireturn, 1) := by decide +kernel
theorem dX6_count_126 : decode cX6_count 126 = .ok (.iload_n 3, 1) := by decide +kernel
theorem dX6_count_127 : decode cX6_count 127 = .ok (.ireturn, 1) := by decide +kernel
theorem dX6_count_128 : decode cX6_count 128 = .ok (.iconst (-1), 1) := by decide +kernel
theorem dX6_count_129 : decode cX6_count 129 = .ok (.ireturn, 1) := by decide +kernel
theorem dX6_wrongBytes_0 : decode cX6_wrongBytes 0 = .ok (.aload_n 0, 1) := by decide +kernel
theorem dX6_wrongBytes_1 : decode cX6_wrongBytes 1 = .ok (.iload_n 1, 1) := by decide +kernel
theorem dX6_wrongBytes_2 : decode cX6_wrongBytes 2 = .ok (.invokevirtual 333, 3) := by decide +kernel
theorem dX6_wrongBytes_5 : decode cX6_wrongBytes 5 = .ok (.ifCond .ge 11, 3) := by decide +kernel
theorem dX6_wrongBytes_8 : decode cX6_wrongBytes 8 = .ok (.aload_n 0, 1) := by decide +kernel
theorem dX6_wrongBytes_9 : decode cX6_wrongBytes 9 = .ok (.iload_n 1, 1) := by decide +kernel
theorem dX6_wrongBytes_10 : decode cX6_wrongBytes 10 = .ok (.invokevirtual 333, 3) := by decide +kernel
theorem dX6_wrongBytes_13 : decode cX6_wrongBytes 13 = .ok (.goto 18, 3) := by decide +kernel
theorem dX6_wrongBytes_16 : decode cX6_wrongBytes 16 = .ok (.aload_n 0, 1) := by decide +kernel
theorem dX6_wrongBytes_17 : decode cX6_wrongBytes 17 = .ok (.getfield 80, 3) := by decide +kernel
theorem dX6_wrongBytes_20 : decode cX6_wrongBytes 20 = .ok (.iload_n 1, 1) := by decide +kernel
theorem dX6_wrongBytes_21 : decode cX6_wrongBytes 21 = .ok (.iaload, 1) := by decide +kernel
theorem dX6_wrongBytes_22 : decode cX6_wrongBytes 22 = .ok (.ifCond .eq 8, 3) := by decide +kernel
theorem dX6_wrongBytes_25 : decode cX6_wrongBytes 25 = .ok (.bipush (-12), 2) := by decide +kernel
theorem dX6_wrongBytes_27 : decode cX6_wrongBytes 27 = .ok (.goto 4, 3) := by decide +kernel
theorem dX6_wrongBytes_30 : decode cX6_wrongBytes 30 = .ok (.iconst 0, 1) := by decide +kernel
theorem dX6_wrongBytes_31 : decode cX6_wrongBytes 31 = .ok (.ireturn, 1) := by decide +kernel
theorem dX6_keep_0 : decode cX6_keep 0 = .ok (.aload_n 0, 1) := by decide +kernel
theorem dX6_keep_1 : decode cX6_keep 1 = .ok (.iconst 0, 1) := by decide +kernel
theorem dX6_keep_2 : decode cX6_keep 2 = .ok (.putfield 93, 3) := by decide +kernel
theorem dX6_keep_5 : decode cX6_keep 5 = .ok (.iload_n 1, 1) := by decide +kernel
theorem dX6_keep_6 : decode cX6_keep 6 = .ok (.i2l, 1) := by decide +kernel
theorem dX6_keep_7 : decode cX6_keep 7 = .ok (.lconst 0, 1) := by decide +kernel
theorem dX6_keep_8 : decode cX6_keep 8 = .ok (.ldc2_w 340, 3) := by decide +kernel
theorem dX6_keep_11 : decode cX6_keep 11 = .ok (.invokestatic 100, 3) := by decide +kernel
theorem dX6_keep_14 : decode cX6_keep 14 = .ok (.ifCond .eq 26, 3) := by decide +kernel
theorem dX6_keep_17 : decode cX6_keep 17 = .ok (.iload_n 2, 1) := by decide +kernel
theorem dX6_keep_18 : decode cX6_keep 18 = .ok (.i2l, 1) := by decide +kernel
theorem dX6_keep_19 : decode cX6_keep 19 = .ok (.lconst 0, 1) := by decide +kernel
theorem dX6_keep_20 : decode cX6_keep 20 = .ok (.lconst 1, 1) := by decide +kernel
theorem dX6_keep_21 : decode cX6_keep 21 = .ok (.invokestatic 100, 3) := by decide +kernel
theorem dX6_keep_24 : decode cX6_keep 24 = .ok (.ifCond .eq 16, 3) := by decide +kernel
theorem dX6_keep_27 : decode cX6_keep 27 = .ok (.iload_n 2, 1) := by decide +kernel
theorem dX6_keep_28 : decode cX6_keep 28 = .ok (.iconst 1, 1) := by decide +kernel
theorem dX6_keep_29 : decode cX6_keep 29 = .ok (.if_icmp .ne 13, 3) := by decide +kernel
theorem dX6_keep_32 : decode cX6_keep 32 = .ok (.aload_n 0, 1) := by decide +kernel
theorem dX6_keep_33 : decode cX6_keep 33 = .ok (.iload_n 3, 1) := by decide +kernel
theorem dX6_keep_34 : decode cX6_keep 34 = .ok (.invokevirtual 194, 3) := by decide +kernel
theorem dX6_keep_37 : decode cX6_keep 37 = .ok (.ifCond .ne 5, 3) := by decide +kernel
theorem dX6_keep_40 : decode cX6_keep 40 = .ok (.iconst (-1), 1) := by decide +kernel
theorem dX6_keep_41 : decode cX6_keep 41 = .ok (.ireturn, 1) := by decide +kernel
theorem dX6_keep_42 : decode cX6_keep 42 = .ok (.aload_n 0, 1) := by decide +kernel
theorem dX6_keep_43 : decode cX6_keep 43 = .ok (.getfield 68, 3) := by decide +kernel
theorem dX6_keep_46 : decode cX6_keep 46 = .ok (.iload_n 1, 1) := by decide +kernel
theorem dX6_keep_47 : decode cX6_keep 47 = .ok (.iload_n 2, 1) := by decide +kernel
theorem dX6_keep_48 : decode cX6_keep 48 = .ok (.iastore, 1) := by decide +kernel
theorem dX6_keep_49 : decode cX6_keep 49 = .ok (.iload_n 2, 1) := by decide +kernel
theorem dX6_keep_50 : decode cX6_keep 50 = .ok (.iconst 1, 1) := by decide +kernel
theorem dX6_keep_51 : decode cX6_keep 51 = .ok (.if_icmp .ne 34, 3) := by decide +kernel
theorem dX6_keep_54 : decode cX6_keep 54 = .ok (.aload_n 0, 1) := by decide +kernel
theorem dX6_keep_55 : decode cX6_keep 55 = .ok (.getfield 71, 3) := by decide +kernel
theorem dX6_keep_58 : decode cX6_keep 58 = .ok (.iload_n 1, 1) := by decide +kernel
theorem dX6_keep_59 : decode cX6_keep 59 = .ok (.iload_n 3, 1) := by decide +kernel
theorem dX6_keep_60 : decode cX6_keep 60 = .ok (.iastore, 1) := by decide +kernel
theorem dX6_keep_61 : decode cX6_keep 61 = .ok (.aload_n 0, 1) := by decide +kernel
theorem dX6_keep_62 : decode cX6_keep 62 = .ok (.getfield 74, 3) := by decide +kernel
theorem dX6_keep_65 : decode cX6_keep 65 = .ok (.iload_n 1, 1) := by decide +kernel
theorem dX6_keep_66 : decode cX6_keep 66 = .ok (.aload_n 0, 1) := by decide +kernel
theorem dX6_keep_67 : decode cX6_keep 67 = .ok (.getfield 7, 3) := by decide +kernel
theorem dX6_keep_70 : decode cX6_keep 70 = .ok (.iload_n 3, 1) := by decide +kernel
theorem dX6_keep_71 : decode cX6_keep 71 = .ok (.iaload, 1) := by decide +kernel
theorem dX6_keep_72 : decode cX6_keep 72 = .ok (.iastore, 1) := by decide +kernel
theorem dX6_keep_73 : decode cX6_keep 73 = .ok (.aload_n 0, 1) := by decide +kernel
theorem dX6_keep_74 : decode cX6_keep 74 = .ok (.getfield 77, 3) := by decide +kernel
theorem dX6_keep_77 : decode cX6_keep 77 = .ok (.iload_n 1, 1) := by decide +kernel
theorem dX6_keep_78 : decode cX6_keep 78 = .ok (.aload_n 0, 1) := by decide +kernel
theorem dX6_keep_79 : decode cX6_keep 79 = .ok (.getfield 13, 3) := by decide +kernel
theorem dX6_keep_82 : decode cX6_keep 82 = .ok (.iload_n 3, 1) := by decide +kernel
theorem dX6_keep_83 : decode cX6_keep 83 = .ok (.iaload, 1) := by decide +kernel
theorem dX6_keep_84 : decode cX6_keep 84 = .ok (.iastore, 1) := by decide +kernel
theorem dX6_keep_85 : decode cX6_keep 85 = .ok (.iconst 0, 1) := by decide +kernel
theorem dX6_keep_86 : decode cX6_keep 86 = .ok (.ireturn, 1) := by decide +kernel
theorem dX6_wrongRow_0 : decode cX6_wrongRow 0 = .ok (.iload_n 1, 1) := by decide +kernel
theorem dX6_wrongRow_1 : decode cX6_wrongRow 1 = .ok (.i2l, 1) := by decide +kernel
theorem dX6_wrongRow_2 : decode cX6_wrongRow 2 = .ok (.lconst 0, 1) := by decide +kernel
theorem dX6_wrongRow_3 : decode cX6_wrongRow 3 = .ok (.ldc2_w 340, 3) := by decide +kernel
theorem dX6_wrongRow_6 : decode cX6_wrongRow 6 = .ok (.invokestatic 100, 3) := by decide +kernel
theorem dX6_wrongRow_9 : decode cX6_wrongRow 9 = .ok (.ifCond .ne 7, 3) := by decide +kernel
theorem dX6_wrongRow_12 : decode cX6_wrongRow 12 = .ok (.iconst (-1), 1) := by decide +kernel
theorem dX6_wrongRow_13 : decode cX6_wrongRow 13 = .ok (.goto 33, 3) := by decide +kernel
theorem dX6_wrongRow_16 : decode cX6_wrongRow 16 = .ok (.aload_n 0, 1) := by decide +kernel
theorem dX6_wrongRow_17 : decode cX6_wrongRow 17 = .ok (.getfield 68, 3) := by decide +kernel
theorem dX6_wrongRow_20 : decode cX6_wrongRow 20 = .ok (.iload_n 1, 1) := by decide +kernel
theorem dX6_wrongRow_21 : decode cX6_wrongRow 21 = .ok (.iaload, 1) := by decide +kernel
theorem dX6_wrongRow_22 : decode cX6_wrongRow 22 = .ok (.ifCond .ne 8, 3) := by decide +kernel
theorem dX6_wrongRow_25 : decode cX6_wrongRow 25 = .ok (.bipush (-11), 2) := by decide +kernel
theorem dX6_wrongRow_27 : decode cX6_wrongRow 27 = .ok (.goto 19, 3) := by decide +kernel
theorem dX6_wrongRow_30 : decode cX6_wrongRow 30 = .ok (.aload_n 0, 1) := by decide +kernel
theorem dX6_wrongRow_31 : decode cX6_wrongRow 31 = .ok (.getfield 68, 3) := by decide +kernel
theorem dX6_wrongRow_34 : decode cX6_wrongRow 34 = .ok (.iload_n 1, 1) := by decide +kernel
theorem dX6_wrongRow_35 : decode cX6_wrongRow 35 = .ok (.iaload, 1) := by decide +kernel
theorem dX6_wrongRow_36 : decode cX6_wrongRow 36 = .ok (.iconst 2, 1) := by decide +kernel
theorem dX6_wrongRow_37 : decode cX6_wrongRow 37 = .ok (.if_icmp .eq 8, 3) := by decide +kernel
theorem dX6_wrongRow_40 : decode cX6_wrongRow 40 = .ok (.bipush (-12), 2) := by decide +kernel
theorem dX6_wrongRow_42 : decode cX6_wrongRow 42 = .ok (.goto 4, 3) := by decide +kernel
theorem dX6_wrongRow_45 : decode cX6_wrongRow 45 = .ok (.iconst 0, 1) := by decide +kernel
theorem dX6_wrongRow_46 : decode cX6_wrongRow 46 = .ok (.ireturn, 1) := by decide +kernel
theorem dX6_narrowed_0 : decode cX6_narrowed 0 = .ok (.iload_n 1, 1) := by decide +kernel
theorem dX6_narrowed_1 : decode cX6_narrowed 1 = .ok (.ifCond .ne 9, 3) := by decide +kernel
theorem dX6_narrowed_4 : decode cX6_narrowed 4 = .ok (.iload_n 0, 1) := by decide +kernel
theorem dX6_narrowed_5 : decode cX6_narrowed 5 = .ok (.i2b, 1) := by decide +kernel
theorem dX6_narrowed_6 : decode cX6_narrowed 6 = .ok (.i2l, 1) := by decide +kernel
theorem dX6_narrowed_7 : decode cX6_narrowed 7 = .ok (.goto 16, 3) := by decide +kernel
theorem dX6_narrowed_10 : decode cX6_narrowed 10 = .ok (.iload_n 1, 1) := by decide +kernel
theorem dX6_narrowed_11 : decode cX6_narrowed 11 = .ok (.iconst 1, 1) := by decide +kernel
theorem dX6_narrowed_12 : decode cX6_narrowed 12 = .ok (.if_icmp .ne 9, 3) := by decide +kernel
theorem dX6_narrowed_15 : decode cX6_narrowed 15 = .ok (.iload_n 0, 1) := by decide +kernel
theorem dX6_narrowed_16 : decode cX6_narrowed 16 = .ok (.i2s, 1) := by decide +kernel
theorem dX6_narrowed_17 : decode cX6_narrowed 17 = .ok (.i2l, 1) := by decide +kernel
theorem dX6_narrowed_18 : decode cX6_narrowed 18 = .ok (.goto 5, 3) := by decide +kernel
theorem dX6_narrowed_21 : decode cX6_narrowed 21 = .ok (.iload_n 0, 1) := by decide +kernel
theorem dX6_narrowed_22 : decode cX6_narrowed 22 = .ok (.i2l, 1) := by decide +kernel
theorem dX6_narrowed_23 : decode cX6_narrowed 23 = .ok (.lreturn, 1) := by decide +kernel
theorem dX6_row_0 : decode cX6_row 0 = .ok (.aload_n 0, 1) := by decide +kernel
theorem dX6_row_1 : decode cX6_row 1 = .ok (.iconst 0, 1) := by decide +kernel
theorem dX6_row_2 : decode cX6_row 2 = .ok (.putfield 93, 3) := by decide +kernel
theorem dX6_row_5 : decode cX6_row 5 = .ok (.iload_n 1, 1) := by decide +kernel
theorem dX6_row_6 : decode cX6_row 6 = .ok (.i2l, 1) := by decide +kernel
theorem dX6_row_7 : decode cX6_row 7 = .ok (.lconst 0, 1) := by decide +kernel
theorem dX6_row_8 : decode cX6_row 8 = .ok (.ldc2_w 340, 3) := by decide +kernel
theorem dX6_row_11 : decode cX6_row 11 = .ok (.invokestatic 100, 3) := by decide +kernel
theorem dX6_row_14 : decode cX6_row 14 = .ok (.ifCond .eq 21, 3) := by decide +kernel
theorem dX6_row_17 : decode cX6_row 17 = .ok (.iload_n 2, 1) := by decide +kernel
theorem dX6_row_18 : decode cX6_row 18 = .ok (.i2l, 1) := by decide +kernel
theorem dX6_row_19 : decode cX6_row 19 = .ok (.lconst 0, 1) := by decide +kernel
theorem dX6_row_20 : decode cX6_row 20 = .ok (.ldc2_w 287, 3) := by decide +kernel
theorem dX6_row_23 : decode cX6_row 23 = .ok (.invokestatic 100, 3) := by decide +kernel
theorem dX6_row_26 : decode cX6_row 26 = .ok (.ifCond .eq 9, 3) := by decide +kernel
theorem dX6_row_29 : decode cX6_row 29 = .ok (.iload_n 3, 1) := by decide +kernel
theorem dX6_row_30 : decode cX6_row 30 = .ok (.bipush 100, 2) := by decide +kernel
theorem dX6_row_32 : decode cX6_row 32 = .ok (.if_icmp .le 5, 3) := by decide +kernel
theorem dX6_row_35 : decode cX6_row 35 = .ok (.iconst (-1), 1) := by decide +kernel
theorem dX6_row_36 : decode cX6_row 36 = .ok (.ireturn, 1) := by decide +kernel
theorem dX6_row_37 : decode cX6_row 37 = .ok (.iload_n 3, 1) := by decide +kernel
theorem dX6_row_38 : decode cX6_row 38 = .ok (.ifCond .ge 6, 3) := by decide +kernel
theorem dX6_row_41 : decode cX6_row 41 = .ok (.bipush (-14), 2) := by decide +kernel
theorem dX6_row_43 : decode cX6_row 43 = .ok (.ireturn, 1) := by decide +kernel
theorem dX6_row_44 : decode cX6_row 44 = .ok (.aload_n 0, 1) := by decide +kernel
theorem dX6_row_45 : decode cX6_row 45 = .ok (.getfield 68, 3) := by decide +kernel
theorem dX6_row_48 : decode cX6_row 48 = .ok (.iload_n 1, 1) := by decide +kernel
theorem dX6_row_49 : decode cX6_row 49 = .ok (.iconst 2, 1) := by decide +kernel
theorem dX6_row_50 : decode cX6_row 50 = .ok (.iastore, 1) := by decide +kernel
theorem dX6_row_51 : decode cX6_row 51 = .ok (.aload_n 0, 1) := by decide +kernel
theorem dX6_row_52 : decode cX6_row 52 = .ok (.getfield 80, 3) := by decide +kernel
theorem dX6_row_55 : decode cX6_row 55 = .ok (.iload_n 1, 1) := by decide +kernel
theorem dX6_row_56 : decode cX6_row 56 = .ok (.iload_n 2, 1) := by decide +kernel
theorem dX6_row_57 : decode cX6_row 57 = .ok (.iastore, 1) := by decide +kernel
theorem dX6_row_58 : decode cX6_row 58 = .ok (.aload_n 0, 1) := by decide +kernel
theorem dX6_row_59 : decode cX6_row 59 = .ok (.getfield 83, 3) := by decide +kernel
theorem dX6_row_62 : decode cX6_row 62 = .ok (.iload_n 1, 1) := by decide +kernel
theorem dX6_row_63 : decode cX6_row 63 = .ok (.iload_n 3, 1) := by decide +kernel
theorem dX6_row_64 : decode cX6_row 64 = .ok (.iastore, 1) := by decide +kernel
theorem dX6_row_65 : decode cX6_row 65 = .ok (.iconst 0, 1) := by decide +kernel
theorem dX6_row_66 : decode cX6_row 66 = .ok (.istore 4, 2) := by decide +kernel
theorem dX6_row_68 : decode cX6_row 68 = .ok (.iload 4, 2) := by decide +kernel
theorem dX6_row_70 : decode cX6_row 70 = .ok (.bipush 100, 2) := by decide +kernel
theorem dX6_row_72 : decode cX6_row 72 = .ok (.if_icmp .ge 22, 3) := by decide +kernel
theorem dX6_row_75 : decode cX6_row 75 = .ok (.aload_n 0, 1) := by decide +kernel
theorem dX6_row_76 : decode cX6_row 76 = .ok (.getfield 86, 3) := by decide +kernel
theorem dX6_row_79 : decode cX6_row 79 = .ok (.bipush 100, 2) := by decide +kernel
theorem dX6_row_81 : decode cX6_row 81 = .ok (.iload_n 1, 1) := by decide +kernel
theorem dX6_row_82 : decode cX6_row 82 = .ok (.imul, 1) := by decide +kernel
theorem dX6_row_83 : decode cX6_row 83 = .ok (.iload 4, 2) := by decide +kernel
theorem dX6_row_85 : decode cX6_row 85 = .ok (.iadd, 1) := by decide +kernel
theorem dX6_row_86 : decode cX6_row 86 = .ok (.lconst 0, 1) := by decide +kernel
theorem dX6_row_87 : decode cX6_row 87 = .ok (.lastore, 1) := by decide +kernel
theorem dX6_row_88 : decode cX6_row 88 = .ok (.iinc 4 1, 3) := by decide +kernel
theorem dX6_row_91 : decode cX6_row 91 = .ok (.goto (-23), 3) := by decide +kernel
theorem dX6_row_94 : decode cX6_row 94 = .ok (.iconst 0, 1) := by decide +kernel
theorem dX6_row_95 : decode cX6_row 95 = .ok (.ireturn, 1) := by decide +kernel
theorem dX6_put_0 : decode cX6_put 0 = .ok (.aload_n 0, 1) := by decide +kernel
theorem dX6_put_1 : decode cX6_put 1 = .ok (.iconst 0, 1) := by decide +kernel
theorem dX6_put_2 : decode cX6_put 2 = .ok (.putfield 93, 3) := by decide +kernel
theorem dX6_put_5 : decode cX6_put 5 = .ok (.aload_n 0, 1) := by decide +kernel
theorem dX6_put_6 : decode cX6_put 6 = .ok (.iload_n 1, 1) := by decide +kernel
theorem dX6_put_7 : decode cX6_put 7 = .ok (.invokevirtual 333, 3) := by decide +kernel
theorem dX6_put_10 : decode cX6_put 10 = .ok (.istore 4, 2) := by decide +kernel
theorem dX6_put_12 : decode cX6_put 12 = .ok (.iload 4, 2) := by decide +kernel
theorem dX6_put_14 : decode cX6_put 14 = .ok (.ifCond .ge 6, 3) := by decide +kernel
theorem dX6_put_17 : decode cX6_put 17 = .ok (.iload 4, 2) := by decide +kernel
theorem dX6_put_19 : decode cX6_put 19 = .ok (.ireturn, 1) := by decide +kernel
theorem dX6_put_20 : decode cX6_put 20 = .ok (.iload_n 2, 1) := by decide +kernel
theorem dX6_put_21 : decode cX6_put 21 = .ok (.i2l, 1) := by decide +kernel
theorem dX6_put_22 : decode cX6_put 22 = .ok (.lconst 0, 1) := by decide +kernel
theorem dX6_put_23 : decode cX6_put 23 = .ok (.aload_n 0, 1) := by decide +kernel
theorem dX6_put_24 : decode cX6_put 24 = .ok (.getfield 83, 3) := by decide +kernel
theorem dX6_put_27 : decode cX6_put 27 = .ok (.iload_n 1, 1) := by decide +kernel
theorem dX6_put_28 : decode cX6_put 28 = .ok (.iaload, 1) := by decide +kernel
theorem dX6_put_29 : decode cX6_put 29 = .ok (.iconst 1, 1) := by decide +kernel
theorem dX6_put_30 : decode cX6_put 30 = .ok (.isub, 1) := by decide +kernel
theorem dX6_put_31 : decode cX6_put 31 = .ok (.i2l, 1) := by decide +kernel
theorem dX6_put_32 : decode cX6_put 32 = .ok (.invokestatic 100, 3) := by decide +kernel
theorem dX6_put_35 : decode cX6_put 35 = .ok (.ifCond .ne 6, 3) := by decide +kernel
theorem dX6_put_38 : decode cX6_put 38 = .ok (.bipush (-13), 2) := by decide +kernel
theorem dX6_put_40 : decode cX6_put 40 = .ok (.ireturn, 1) := by decide +kernel
theorem dX6_put_41 : decode cX6_put 41 = .ok (.aload_n 0, 1) := by decide +kernel
theorem dX6_put_42 : decode cX6_put 42 = .ok (.getfield 86, 3) := by decide +kernel
theorem dX6_put_45 : decode cX6_put 45 = .ok (.bipush 100, 2) := by decide +kernel
theorem dX6_put_47 : decode cX6_put 47 = .ok (.iload_n 1, 1) := by decide +kernel
theorem dX6_put_48 : decode cX6_put 48 = .ok (.imul, 1) := by decide +kernel
theorem dX6_put_49 : decode cX6_put 49 = .ok (.iload_n 2, 1) := by decide +kernel
theorem dX6_put_50 : decode cX6_put 50 = .ok (.iadd, 1) := by decide +kernel
theorem dX6_put_51 : decode cX6_put 51 = .ok (.iload_n 3, 1) := by decide +kernel
theorem dX6_put_52 : decode cX6_put 52 = .ok (.aload_n 0, 1) := by decide +kernel
theorem dX6_put_53 : decode cX6_put 53 = .ok (.getfield 80, 3) := by decide +kernel
theorem dX6_put_56 : decode cX6_put 56 = .ok (.iload_n 1, 1) := by decide +kernel
theorem dX6_put_57 : decode cX6_put 57 = .ok (.iaload, 1) := by decide +kernel
theorem dX6_put_58 : decode cX6_put 58 = .ok (.invokestatic 342, 3) := by decide +kernel
theorem dX6_put_61 : decode cX6_put 61 = .ok (.lastore, 1) := by decide +kernel
theorem dX6_put_62 : decode cX6_put 62 = .ok (.iconst 0, 1) := by decide +kernel
theorem dX6_put_63 : decode cX6_put 63 = .ok (.ireturn, 1) := by decide +kernel
theorem dX6_element_0 : decode cX6_element 0 = .ok (.aload_n 0, 1) := by decide +kernel
theorem dX6_element_1 : decode cX6_element 1 = .ok (.iload_n 1, 1) := by decide +kernel
theorem dX6_element_2 : decode cX6_element 2 = .ok (.invokevirtual 333, 3) := by decide +kernel
theorem dX6_element_5 : decode cX6_element 5 = .ok (.istore_n 3, 1) := by decide +kernel
theorem dX6_element_6 : decode cX6_element 6 = .ok (.aload_n 0, 1) := by decide +kernel
theorem dX6_element_7 : decode cX6_element 7 = .ok (.iload_n 3, 1) := by decide +kernel
theorem dX6_element_8 : decode cX6_element 8 = .ok (.iconst (-1), 1) := by decide +kernel
theorem dX6_element_9 : decode cX6_element 9 = .ok (.if_icmp .ne 7, 3) := by decide +kernel
theorem dX6_element_12 : decode cX6_element 12 = .ok (.iconst 1, 1) := by decide +kernel
theorem dX6_element_13 : decode cX6_element 13 = .ok (.goto 30, 3) := by decide +kernel
theorem dX6_element_16 : decode cX6_element 16 = .ok (.iload_n 3, 1) := by decide +kernel
theorem dX6_element_17 : decode cX6_element 17 = .ok (.ifCond .lt 21, 3) := by decide +kernel
theorem dX6_element_20 : decode cX6_element 20 = .ok (.iload_n 2, 1) := by decide +kernel
theorem dX6_element_21 : decode cX6_element 21 = .ok (.i2l, 1) := by decide +kernel
theorem dX6_element_22 : decode cX6_element 22 = .ok (.lconst 0, 1) := by decide +kernel
theorem dX6_element_23 : decode cX6_element 23 = .ok (.aload_n 0, 1) := by decide +kernel
theorem dX6_element_24 : decode cX6_element 24 = .ok (.getfield 83, 3) := by decide +kernel
theorem dX6_element_27 : decode cX6_element 27 = .ok (.iload_n 1, 1) := by decide +kernel
theorem dX6_element_28 : decode cX6_element 28 = .ok (.iaload, 1) := by decide +kernel
theorem dX6_element_29 : decode cX6_element 29 = .ok (.iconst 1, 1) := by decide +kernel
theorem dX6_element_30 : decode cX6_element 30 = .ok (.isub, 1) := by decide +kernel
theorem dX6_element_31 : decode cX6_element 31 = .ok (.i2l, 1) := by decide +kernel
theorem dX6_element_32 : decode cX6_element 32 = .ok (.invokestatic 100, 3) := by decide +kernel
theorem dX6_element_35 : decode cX6_element 35 = .ok (.ifCond .ne 7, 3) := by decide +kernel
theorem dX6_element_38 : decode cX6_element 38 = .ok (.iconst 2, 1) := by decide +kernel
theorem dX6_element_39 : decode cX6_element 39 = .ok (.goto 4, 3) := by decide +kernel
theorem dX6_element_42 : decode cX6_element 42 = .ok (.iconst 0, 1) := by decide +kernel
theorem dX6_element_43 : decode cX6_element 43 = .ok (.putfield 93, 3) := by decide +kernel
theorem dX6_element_46 : decode cX6_element 46 = .ok (.aload_n 0, 1) := by decide +kernel
theorem dX6_element_47 : decode cX6_element 47 = .ok (.getfield 93, 3) := by decide +kernel
theorem dX6_element_50 : decode cX6_element 50 = .ok (.ifCond .le 7, 3) := by decide +kernel
theorem dX6_element_53 : decode cX6_element 53 = .ok (.lconst 0, 1) := by decide +kernel
theorem dX6_element_54 : decode cX6_element 54 = .ok (.goto 14, 3) := by decide +kernel
theorem dX6_element_57 : decode cX6_element 57 = .ok (.aload_n 0, 1) := by decide +kernel
theorem dX6_element_58 : decode cX6_element 58 = .ok (.getfield 86, 3) := by decide +kernel
theorem dX6_element_61 : decode cX6_element 61 = .ok (.bipush 100, 2) := by decide +kernel
theorem dX6_element_63 : decode cX6_element 63 = .ok (.iload_n 1, 1) := by decide +kernel
theorem dX6_element_64 : decode cX6_element 64 = .ok (.imul, 1) := by decide +kernel
theorem dX6_element_65 : decode cX6_element 65 = .ok (.iload_n 2, 1) := by decide +kernel
theorem dX6_element_66 : decode cX6_element 66 = .ok (.iadd, 1) := by decide +kernel
theorem dX6_element_67 : decode cX6_element 67 = .ok (.laload, 1) := by decide +kernel
theorem dX6_element_68 : decode cX6_element 68 = .ok (.lreturn, 1) := by decide +kernel
theorem dX6_copy_0 : decode cX6_copy 0 = .ok (.aload_n 0, 1) := by decide +kernel
theorem dX6_copy_1 : decode cX6_copy 1 = .ok (.iconst 0, 1) := by decide +kernel
theorem dX6_copy_2 : decode cX6_copy 2 = .ok (.putfield 93, 3) := by decide +kernel
theorem dX6_copy_5 : decode cX6_copy 5 = .ok (.iload_n 1, 1) := by decide +kernel
theorem dX6_copy_6 : decode cX6_copy 6 = .ok (.i2l, 1) := by decide +kernel
theorem dX6_copy_7 : decode cX6_copy 7 = .ok (.lconst 0, 1) := by decide +kernel
theorem dX6_copy_8 : decode cX6_copy 8 = .ok (.ldc2_w 340, 3) := by decide +kernel
theorem dX6_copy_11 : decode cX6_copy 11 = .ok (.invokestatic 100, 3) := by decide +kernel
theorem dX6_copy_14 : decode cX6_copy 14 = .ok (.ifCond .eq 15, 3) := by decide +kernel
theorem dX6_copy_17 : decode cX6_copy 17 = .ok (.iload_n 3, 1) := by decide +kernel
theorem dX6_copy_18 : decode cX6_copy 18 = .ok (.i2l, 1) := by decide +kernel
theorem dX6_copy_19 : decode cX6_copy 19 = .ok (.lconst 0, 1) := by decide +kernel
theorem dX6_copy_20 : decode cX6_copy 20 = .ok (.ldc2_w 340, 3) := by decide +kernel
theorem dX6_copy_23 : decode cX6_copy 23 = .ok (.invokestatic 100, 3) := by decide +kernel
theorem dX6_copy_26 : decode cX6_copy 26 = .ok (.ifCond .ne 5, 3) := by decide +kernel
theorem dX6_copy_29 : decode cX6_copy 29 = .ok (.iconst (-1), 1) := by decide +kernel
theorem dX6_copy_30 : decode cX6_copy 30 = .ok (.ireturn, 1) := by decide +kernel
theorem dX6_copy_31 : decode cX6_copy 31 = .ok (.aload_n 0, 1) := by decide +kernel
theorem dX6_copy_32 : decode cX6_copy 32 = .ok (.getfield 68, 3) := by decide +kernel
theorem dX6_copy_35 : decode cX6_copy 35 = .ok (.iload_n 1, 1) := by decide +kernel
theorem dX6_copy_36 : decode cX6_copy 36 = .ok (.iaload, 1) := by decide +kernel
theorem dX6_copy_37 : decode cX6_copy 37 = .ok (.ifCond .eq 12, 3) := by decide +kernel
theorem dX6_copy_40 : decode cX6_copy 40 = .ok (.aload_n 0, 1) := by decide +kernel
theorem dX6_copy_41 : decode cX6_copy 41 = .ok (.getfield 68, 3) := by decide +kernel
theorem dX6_copy_44 : decode cX6_copy 44 = .ok (.iload_n 3, 1) := by decide +kernel
theorem dX6_copy_45 : decode cX6_copy 45 = .ok (.iaload, 1) := by decide +kernel
theorem dX6_copy_46 : decode cX6_copy 46 = .ok (.ifCond .ne 6, 3) := by decide +kernel
theorem dX6_copy_49 : decode cX6_copy 49 = .ok (.bipush (-11), 2) := by decide +kernel
theorem dX6_copy_51 : decode cX6_copy 51 = .ok (.ireturn, 1) := by decide +kernel
theorem dX6_copy_52 : decode cX6_copy 52 = .ok (.aload_n 0, 1) := by decide +kernel
theorem dX6_copy_53 : decode cX6_copy 53 = .ok (.getfield 68, 3) := by decide +kernel
theorem dX6_copy_56 : decode cX6_copy 56 = .ok (.iload_n 1, 1) := by decide +kernel
theorem dX6_copy_57 : decode cX6_copy 57 = .ok (.iaload, 1) := by decide +kernel
theorem dX6_copy_58 : decode cX6_copy 58 = .ok (.iconst 2, 1) := by decide +kernel
theorem dX6_copy_59 : decode cX6_copy 59 = .ok (.if_icmp .ne 28, 3) := by decide +kernel
theorem dX6_copy_62 : decode cX6_copy 62 = .ok (.aload_n 0, 1) := by decide +kernel
theorem dX6_copy_63 : decode cX6_copy 63 = .ok (.getfield 68, 3) := by decide +kernel
theorem dX6_copy_66 : decode cX6_copy 66 = .ok (.iload_n 3, 1) := by decide +kernel
theorem dX6_copy_67 : decode cX6_copy 67 = .ok (.iaload, 1) := by decide +kernel
theorem dX6_copy_68 : decode cX6_copy 68 = .ok (.iconst 2, 1) := by decide +kernel
theorem dX6_copy_69 : decode cX6_copy 69 = .ok (.if_icmp .ne 18, 3) := by decide +kernel
theorem dX6_copy_72 : decode cX6_copy 72 = .ok (.aload_n 0, 1) := by decide +kernel
theorem dX6_copy_73 : decode cX6_copy 73 = .ok (.getfield 80, 3) := by decide +kernel
theorem dX6_copy_76 : decode cX6_copy 76 = .ok (.iload_n 1, 1) := by decide +kernel
theorem dX6_copy_77 : decode cX6_copy 77 = .ok (.iaload, 1) := by decide +kernel
theorem dX6_copy_78 : decode cX6_copy 78 = .ok (.aload_n 0, 1) := by decide +kernel
theorem dX6_copy_79 : decode cX6_copy 79 = .ok (.getfield 80, 3) := by decide +kernel
theorem dX6_copy_82 : decode cX6_copy 82 = .ok (.iload_n 3, 1) := by decide +kernel
theorem dX6_copy_83 : decode cX6_copy 83 = .ok (.iaload, 1) := by decide +kernel
theorem dX6_copy_84 : decode cX6_copy 84 = .ok (.if_icmp .eq 6, 3) := by decide +kernel
theorem dX6_copy_87 : decode cX6_copy 87 = .ok (.bipush (-12), 2) := by decide +kernel
theorem dX6_copy_89 : decode cX6_copy 89 = .ok (.ireturn, 1) := by decide +kernel
theorem dX6_copy_90 : decode cX6_copy 90 = .ok (.iload 5, 2) := by decide +kernel
theorem dX6_copy_92 : decode cX6_copy 92 = .ok (.ifCond .lt 39, 3) := by decide +kernel
theorem dX6_copy_95 : decode cX6_copy 95 = .ok (.iload_n 2, 1) := by decide +kernel
theorem dX6_copy_96 : decode cX6_copy 96 = .ok (.ifCond .lt 35, 3) := by decide +kernel
theorem dX6_copy_99 : decode cX6_copy 99 = .ok (.iload 4, 2) := by decide +kernel
theorem dX6_copy_101 : decode cX6_copy 101 = .ok (.ifCond .lt 30, 3) := by decide +kernel
theorem dX6_copy_104 : decode cX6_copy 104 = .ok (.iload_n 2, 1) := by decide +kernel
theorem dX6_copy_105 : decode cX6_copy 105 = .ok (.aload_n 0, 1) := by decide +kernel
theorem dX6_copy_106 : decode cX6_copy 106 = .ok (.getfield 83, 3) := by decide +kernel
theorem dX6_copy_109 : decode cX6_copy 109 = .ok (.iload_n 1, 1) := by decide +kernel
theorem dX6_copy_110 : decode cX6_copy 110 = .ok (.iaload, 1) := by decide +kernel
theorem dX6_copy_111 : decode cX6_copy 111 = .ok (.iload 5, 2) := by decide +kernel
theorem dX6_copy_113 : decode cX6_copy 113 = .ok (.isub, 1) := by decide +kernel
theorem dX6_copy_114 : decode cX6_copy 114 = .ok (.if_icmp .gt 17, 3) := by decide +kernel
theorem dX6_copy_117 : decode cX6_copy 117 = .ok (.iload 4, 2) := by decide +kernel
theorem dX6_copy_119 : decode cX6_copy 119 = .ok (.aload_n 0, 1) := by decide +kernel
theorem dX6_copy_120 : decode cX6_copy 120 = .ok (.getfield 83, 3) := by decide +kernel
theorem dX6_copy_123 : decode cX6_copy 123 = .ok (.iload_n 3, 1) := by decide +kernel
theorem dX6_copy_124 : decode cX6_copy 124 = .ok (.iaload, 1) := by decide +kernel
theorem dX6_copy_125 : decode cX6_copy 125 = .ok (.iload 5, 2) := by decide +kernel
theorem dX6_copy_127 : decode cX6_copy 127 = .ok (.isub, 1) := by decide +kernel
theorem dX6_copy_128 : decode cX6_copy 128 = .ok (.if_icmp .le 6, 3) := by decide +kernel
theorem dX6_copy_131 : decode cX6_copy 131 = .ok (.bipush (-13), 2) := by decide +kernel
theorem dX6_copy_133 : decode cX6_copy 133 = .ok (.ireturn, 1) := by decide +kernel
theorem dX6_copy_134 : decode cX6_copy 134 = .ok (.iconst 0, 1) := by decide +kernel
theorem dX6_copy_135 : decode cX6_copy 135 = .ok (.istore 6, 2) := by decide +kernel
theorem dX6_copy_137 : decode cX6_copy 137 = .ok (.iload 6, 2) := by decide +kernel
theorem dX6_copy_139 : decode cX6_copy 139 = .ok (.iload 5, 2) := by decide +kernel
theorem dX6_copy_141 : decode cX6_copy 141 = .ok (.if_icmp .ge 30, 3) := by decide +kernel
theorem dX6_copy_144 : decode cX6_copy 144 = .ok (.aload_n 0, 1) := by decide +kernel
theorem dX6_copy_145 : decode cX6_copy 145 = .ok (.getfield 90, 3) := by decide +kernel
theorem dX6_copy_148 : decode cX6_copy 148 = .ok (.iload 6, 2) := by decide +kernel
theorem dX6_copy_150 : decode cX6_copy 150 = .ok (.aload_n 0, 1) := by decide +kernel
theorem dX6_copy_151 : decode cX6_copy 151 = .ok (.getfield 86, 3) := by decide +kernel
theorem dX6_copy_154 : decode cX6_copy 154 = .ok (.bipush 100, 2) := by decide +kernel
theorem dX6_copy_156 : decode cX6_copy 156 = .ok (.iload_n 1, 1) := by decide +kernel
theorem dX6_copy_157 : decode cX6_copy 157 = .ok (.imul, 1) := by decide +kernel
theorem dX6_copy_158 : decode cX6_copy 158 = .ok (.iload_n 2, 1) := by decide +kernel
theorem dX6_copy_159 : decode cX6_copy 159 = .ok (.iadd, 1) := by decide +kernel
theorem dX6_copy_160 : decode cX6_copy 160 = .ok (.iload 6, 2) := by decide +kernel
theorem dX6_copy_162 : decode cX6_copy 162 = .ok (.iadd, 1) := by decide +kernel
theorem dX6_copy_163 : decode cX6_copy 163 = .ok (.laload, 1) := by decide +kernel
theorem dX6_copy_164 : decode cX6_copy 164 = .ok (.lastore, 1) := by decide +kernel
theorem dX6_copy_165 : decode cX6_copy 165 = .ok (.iinc 6 1, 3) := by decide +kernel
theorem dX6_copy_168 : decode cX6_copy 168 = .ok (.goto (-31), 3) := by decide +kernel
theorem dX6_copy_171 : decode cX6_copy 171 = .ok (.iconst 0, 1) := by decide +kernel
theorem dX6_copy_172 : decode cX6_copy 172 = .ok (.istore 6, 2) := by decide +kernel
theorem dX6_copy_174 : decode cX6_copy 174 = .ok (.iload 6, 2) := by decide +kernel
theorem dX6_copy_176 : decode cX6_copy 176 = .ok (.iload 5, 2) := by decide +kernel
theorem dX6_copy_178 : decode cX6_copy 178 = .ok (.if_icmp .ge 31, 3) := by decide +kernel
theorem dX6_copy_181 : decode cX6_copy 181 = .ok (.aload_n 0, 1) := by decide +kernel
theorem dX6_copy_182 : decode cX6_copy 182 = .ok (.getfield 86, 3) := by decide +kernel
theorem dX6_copy_185 : decode cX6_copy 185 = .ok (.bipush 100, 2) := by decide +kernel
theorem dX6_copy_187 : decode cX6_copy 187 = .ok (.iload_n 3, 1) := by decide +kernel
theorem dX6_copy_188 : decode cX6_copy 188 = .ok (.imul, 1) := by decide +kernel
theorem dX6_copy_189 : decode cX6_copy 189 = .ok (.iload 4, 2) := by decide +kernel
theorem dX6_copy_191 : decode cX6_copy 191 = .ok (.iadd, 1) := by decide +kernel
theorem dX6_copy_192 : decode cX6_copy 192 = .ok (.iload 6, 2) := by decide +kernel
theorem dX6_copy_194 : decode cX6_copy 194 = .ok (.iadd, 1) := by decide +kernel
theorem dX6_copy_195 : decode cX6_copy 195 = .ok (.aload_n 0, 1) := by decide +kernel
theorem dX6_copy_196 : decode cX6_copy 196 = .ok (.getfield 90, 3) := by decide +kernel
theorem dX6_copy_199 : decode cX6_copy 199 = .ok (.iload 6, 2) := by decide +kernel
theorem dX6_copy_201 : decode cX6_copy 201 = .ok (.laload, 1) := by decide +kernel
theorem dX6_copy_202 : decode cX6_copy 202 = .ok (.lastore, 1) := by decide +kernel
theorem dX6_copy_203 : decode cX6_copy 203 = .ok (.iinc 6 1, 3) := by decide +kernel
theorem dX6_copy_206 : decode cX6_copy 206 = .ok (.goto (-32), 3) := by decide +kernel
theorem dX6_copy_209 : decode cX6_copy 209 = .ok (.iload 5, 2) := by decide +kernel
theorem dX6_copy_211 : decode cX6_copy 211 = .ok (.ireturn, 1) := by decide +kernel
theorem dX6_wrongLane_0 : decode cX6_wrongLane 0 = .ok (.iload_n 1, 1) := by decide +kernel
theorem dX6_wrongLane_1 : decode cX6_wrongLane 1 = .ok (.i2l, 1) := by decide +kernel
theorem dX6_wrongLane_2 : decode cX6_wrongLane 2 = .ok (.lconst 0, 1) := by decide +kernel
theorem dX6_wrongLane_3 : decode cX6_wrongLane 3 = .ok (.ldc2_w 340, 3) := by decide +kernel
theorem dX6_wrongLane_6 : decode cX6_wrongLane 6 = .ok (.invokestatic 100, 3) := by decide +kernel
theorem dX6_wrongLane_9 : decode cX6_wrongLane 9 = .ok (.ifCond .ne 7, 3) := by decide +kernel
theorem dX6_wrongLane_12 : decode cX6_wrongLane 12 = .ok (.iconst (-1), 1) := by decide +kernel
theorem dX6_wrongLane_13 : decode cX6_wrongLane 13 = .ok (.goto 33, 3) := by decide +kernel
theorem dX6_wrongLane_16 : decode cX6_wrongLane 16 = .ok (.aload_n 0, 1) := by decide +kernel
theorem dX6_wrongLane_17 : decode cX6_wrongLane 17 = .ok (.getfield 68, 3) := by decide +kernel
theorem dX6_wrongLane_20 : decode cX6_wrongLane 20 = .ok (.iload_n 1, 1) := by decide +kernel
theorem dX6_wrongLane_21 : decode cX6_wrongLane 21 = .ok (.iaload, 1) := by decide +kernel
theorem dX6_wrongLane_22 : decode cX6_wrongLane 22 = .ok (.ifCond .ne 8, 3) := by decide +kernel
theorem dX6_wrongLane_25 : decode cX6_wrongLane 25 = .ok (.bipush (-11), 2) := by decide +kernel
theorem dX6_wrongLane_27 : decode cX6_wrongLane 27 = .ok (.goto 19, 3) := by decide +kernel
theorem dX6_wrongLane_30 : decode cX6_wrongLane 30 = .ok (.aload_n 0, 1) := by decide +kernel
theorem dX6_wrongLane_31 : decode cX6_wrongLane 31 = .ok (.getfield 68, 3) := by decide +kernel
theorem dX6_wrongLane_34 : decode cX6_wrongLane 34 = .ok (.iload_n 1, 1) := by decide +kernel
theorem dX6_wrongLane_35 : decode cX6_wrongLane 35 = .ok (.iaload, 1) := by decide +kernel
theorem dX6_wrongLane_36 : decode cX6_wrongLane 36 = .ok (.iconst 1, 1) := by decide +kernel
theorem dX6_wrongLane_37 : decode cX6_wrongLane 37 = .ok (.if_icmp .eq 8, 3) := by decide +kernel
theorem dX6_wrongLane_40 : decode cX6_wrongLane 40 = .ok (.bipush (-12), 2) := by decide +kernel
theorem dX6_wrongLane_42 : decode cX6_wrongLane 42 = .ok (.goto 4, 3) := by decide +kernel
theorem dX6_wrongLane_45 : decode cX6_wrongLane 45 = .ok (.iconst 0, 1) := by decide +kernel
theorem dX6_wrongLane_46 : decode cX6_wrongLane 46 = .ok (.ireturn, 1) := by decide +kernel
theorem dX6_tollOf_0 : decode cX6_tollOf 0 = .ok (.aload_n 0, 1) := by decide +kernel
theorem dX6_tollOf_1 : decode cX6_tollOf 1 = .ok (.getfield 77, 3) := by decide +kernel
theorem dX6_tollOf_4 : decode cX6_tollOf 4 = .ok (.iload_n 1, 1) := by decide +kernel
theorem dX6_tollOf_5 : decode cX6_tollOf 5 = .ok (.iaload, 1) := by decide +kernel
theorem dX6_tollOf_6 : decode cX6_tollOf 6 = .ok (.istore_n 2, 1) := by decide +kernel
theorem dX6_tollOf_7 : decode cX6_tollOf 7 = .ok (.aload_n 0, 1) := by decide +kernel
theorem dX6_tollOf_8 : decode cX6_tollOf 8 = .ok (.getfield 74, 3) := by decide +kernel
theorem dX6_tollOf_11 : decode cX6_tollOf 11 = .ok (.iload_n 1, 1) := by decide +kernel
theorem dX6_tollOf_12 : decode cX6_tollOf 12 = .ok (.iaload, 1) := by decide +kernel
theorem dX6_tollOf_13 : decode cX6_tollOf 13 = .ok (.tableswitch 66 1 7 #[43, 47, 49, 66, 52, 55, 62], 43) := by decide +kernel
theorem dX6_tollOf_56 : decode cX6_tollOf 56 = .ok (.iconst 4, 1) := by decide +kernel
theorem dX6_tollOf_57 : decode cX6_tollOf 57 = .ok (.iload_n 2, 1) := by decide +kernel
theorem dX6_tollOf_58 : decode cX6_tollOf 58 = .ok (.iadd, 1) := by decide +kernel
theorem dX6_tollOf_59 : decode cX6_tollOf 59 = .ok (.ireturn, 1) := by decide +kernel
theorem dX6_tollOf_60 : decode cX6_tollOf 60 = .ok (.iconst 2, 1) := by decide +kernel
theorem dX6_tollOf_61 : decode cX6_tollOf 61 = .ok (.ireturn, 1) := by decide +kernel
theorem dX6_tollOf_62 : decode cX6_tollOf 62 = .ok (.bipush 6, 2) := by decide +kernel
theorem dX6_tollOf_64 : decode cX6_tollOf 64 = .ok (.ireturn, 1) := by decide +kernel
theorem dX6_tollOf_65 : decode cX6_tollOf 65 = .ok (.bipush 7, 2) := by decide +kernel
theorem dX6_tollOf_67 : decode cX6_tollOf 67 = .ok (.ireturn, 1) := by decide +kernel
theorem dX6_tollOf_68 : decode cX6_tollOf 68 = .ok (.bipush 8, 2) := by decide +kernel
theorem dX6_tollOf_70 : decode cX6_tollOf 70 = .ok (.iconst 2, 1) := by decide +kernel
theorem dX6_tollOf_71 : decode cX6_tollOf 71 = .ok (.iload_n 2, 1) := by decide +kernel
theorem dX6_tollOf_72 : decode cX6_tollOf 72 = .ok (.imul, 1) := by decide +kernel
theorem dX6_tollOf_73 : decode cX6_tollOf 73 = .ok (.iadd, 1) := by decide +kernel
theorem dX6_tollOf_74 : decode cX6_tollOf 74 = .ok (.ireturn, 1) := by decide +kernel
theorem dX6_tollOf_75 : decode cX6_tollOf 75 = .ok (.iconst 4, 1) := by decide +kernel
theorem dX6_tollOf_76 : decode cX6_tollOf 76 = .ok (.iload_n 2, 1) := by decide +kernel
theorem dX6_tollOf_77 : decode cX6_tollOf 77 = .ok (.isub, 1) := by decide +kernel
theorem dX6_tollOf_78 : decode cX6_tollOf 78 = .ok (.ireturn, 1) := by decide +kernel
theorem dX6_tollOf_79 : decode cX6_tollOf 79 = .ok (.iconst 4, 1) := by decide +kernel
theorem dX6_tollOf_80 : decode cX6_tollOf 80 = .ok (.ireturn, 1) := by decide +kernel
theorem dX6_toll_0 : decode cX6_toll 0 = .ok (.aload_n 0, 1) := by decide +kernel
theorem dX6_toll_1 : decode cX6_toll 1 = .ok (.iconst 0, 1) := by decide +kernel
theorem dX6_toll_2 : decode cX6_toll 2 = .ok (.putfield 93, 3) := by decide +kernel
theorem dX6_toll_5 : decode cX6_toll 5 = .ok (.aload_n 0, 1) := by decide +kernel
theorem dX6_toll_6 : decode cX6_toll 6 = .ok (.iload_n 1, 1) := by decide +kernel
theorem dX6_toll_7 : decode cX6_toll 7 = .ok (.invokevirtual 346, 3) := by decide +kernel
theorem dX6_toll_10 : decode cX6_toll 10 = .ok (.ifCond .ge 11, 3) := by decide +kernel
theorem dX6_toll_13 : decode cX6_toll 13 = .ok (.aload_n 0, 1) := by decide +kernel
theorem dX6_toll_14 : decode cX6_toll 14 = .ok (.iload_n 1, 1) := by decide +kernel
theorem dX6_toll_15 : decode cX6_toll 15 = .ok (.invokevirtual 346, 3) := by decide +kernel
theorem dX6_toll_18 : decode cX6_toll 18 = .ok (.goto 8, 3) := by decide +kernel
theorem dX6_toll_21 : decode cX6_toll 21 = .ok (.aload_n 0, 1) := by decide +kernel
theorem dX6_toll_22 : decode cX6_toll 22 = .ok (.iload_n 1, 1) := by decide +kernel
theorem dX6_toll_23 : decode cX6_toll 23 = .ok (.invokevirtual 349, 3) := by decide +kernel
theorem dX6_toll_26 : decode cX6_toll 26 = .ok (.ireturn, 1) := by decide +kernel
theorem dX6_toss_0 : decode cX6_toss 0 = .ok (.aload_n 0, 1) := by decide +kernel
theorem dX6_toss_1 : decode cX6_toss 1 = .ok (.iconst 0, 1) := by decide +kernel
theorem dX6_toss_2 : decode cX6_toss 2 = .ok (.putfield 93, 3) := by decide +kernel
theorem dX6_toss_5 : decode cX6_toss 5 = .ok (.aload_n 0, 1) := by decide +kernel
theorem dX6_toss_6 : decode cX6_toss 6 = .ok (.iload_n 1, 1) := by decide +kernel
theorem dX6_toss_7 : decode cX6_toss 7 = .ok (.invokevirtual 346, 3) := by decide +kernel
theorem dX6_toss_10 : decode cX6_toss 10 = .ok (.ifCond .ge 9, 3) := by decide +kernel
theorem dX6_toss_13 : decode cX6_toss 13 = .ok (.aload_n 0, 1) := by decide +kernel
theorem dX6_toss_14 : decode cX6_toss 14 = .ok (.iload_n 1, 1) := by decide +kernel
theorem dX6_toss_15 : decode cX6_toss 15 = .ok (.invokevirtual 346, 3) := by decide +kernel
theorem dX6_toss_18 : decode cX6_toss 18 = .ok (.ireturn, 1) := by decide +kernel
theorem dX6_toss_19 : decode cX6_toss 19 = .ok (.aload_n 0, 1) := by decide +kernel
theorem dX6_toss_20 : decode cX6_toss 20 = .ok (.getfield 74, 3) := by decide +kernel
theorem dX6_toss_23 : decode cX6_toss 23 = .ok (.iload_n 1, 1) := by decide +kernel
theorem dX6_toss_24 : decode cX6_toss 24 = .ok (.iaload, 1) := by decide +kernel
theorem dX6_toss_25 : decode cX6_toss 25 = .ok (.istore_n 2, 1) := by decide +kernel
theorem dX6_toss_26 : decode cX6_toss 26 = .ok (.iload_n 2, 1) := by decide +kernel
theorem dX6_toss_27 : decode cX6_toss 27 = .ok (.bipush 7, 2) := by decide +kernel
theorem dX6_toss_29 : decode cX6_toss 29 = .ok (.if_icmp .eq 12, 3) := by decide +kernel
theorem dX6_toss_32 : decode cX6_toss 32 = .ok (.aload_n 0, 1) := by decide +kernel
theorem dX6_toss_33 : decode cX6_toss 33 = .ok (.getfield 77, 3) := by decide +kernel
theorem dX6_toss_36 : decode cX6_toss 36 = .ok (.iload_n 1, 1) := by decide +kernel
theorem dX6_toss_37 : decode cX6_toss 37 = .ok (.iaload, 1) := by decide +kernel
theorem dX6_toss_38 : decode cX6_toss 38 = .ok (.ifCond .ne 6, 3) := by decide +kernel
theorem dX6_toss_41 : decode cX6_toss 41 = .ok (.bipush (-15), 2) := by decide +kernel
theorem dX6_toss_43 : decode cX6_toss 43 = .ok (.ireturn, 1) := by decide +kernel
theorem dX6_toss_44 : decode cX6_toss 44 = .ok (.iload_n 2, 1) := by decide +kernel
theorem dX6_toss_45 : decode cX6_toss 45 = .ok (.iconst 3, 1) := by decide +kernel
theorem dX6_toss_46 : decode cX6_toss 46 = .ok (.if_icmp .ne 15, 3) := by decide +kernel
theorem dX6_toss_49 : decode cX6_toss 49 = .ok (.bipush 100, 2) := by decide +kernel
theorem dX6_toss_51 : decode cX6_toss 51 = .ok (.aload_n 0, 1) := by decide +kernel
theorem dX6_toss_52 : decode cX6_toss 52 = .ok (.getfield 71, 3) := by decide +kernel
theorem dX6_toss_55 : decode cX6_toss 55 = .ok (.iload_n 1, 1) := by decide +kernel
theorem dX6_toss_56 : decode cX6_toss 56 = .ok (.iaload, 1) := by decide +kernel
theorem dX6_toss_57 : decode cX6_toss 57 = .ok (.iadd, 1) := by decide +kernel
theorem dX6_toss_58 : decode cX6_toss 58 = .ok (.goto 27, 3) := by decide +kernel
theorem dX6_toss_61 : decode cX6_toss 61 = .ok (.iload_n 2, 1) := by decide +kernel
theorem dX6_toss_62 : decode cX6_toss 62 = .ok (.bipush 6, 2) := by decide +kernel
theorem dX6_toss_64 : decode cX6_toss 64 = .ok (.if_icmp .ne 15, 3) := by decide +kernel
theorem dX6_toss_67 : decode cX6_toss 67 = .ok (.sipush 200, 3) := by decide +kernel
theorem dX6_toss_70 : decode cX6_toss 70 = .ok (.aload_n 0, 1) := by decide +kernel
theorem dX6_toss_71 : decode cX6_toss 71 = .ok (.iload_n 1, 1) := by decide +kernel
theorem dX6_toss_72 : decode cX6_toss 72 = .ok (.invokevirtual 349, 3) := by decide +kernel
theorem dX6_toss_75 : decode cX6_toss 75 = .ok (.iadd, 1) := by decide +kernel
theorem dX6_toss_76 : decode cX6_toss 76 = .ok (.goto 9, 3) := by decide +kernel
theorem dX6_toss_79 : decode cX6_toss 79 = .ok (.aload_n 0, 1) := by decide +kernel
theorem dX6_toss_80 : decode cX6_toss 80 = .ok (.getfield 71, 3) := by decide +kernel
theorem dX6_toss_83 : decode cX6_toss 83 = .ok (.iload_n 1, 1) := by decide +kernel
theorem dX6_toss_84 : decode cX6_toss 84 = .ok (.iaload, 1) := by decide +kernel
theorem dX6_toss_85 : decode cX6_toss 85 = .ok (.ireturn, 1) := by decide +kernel
theorem dJ9_abs_0f7a4_0 : decode cJ9_abs_0f7a4 0 = .ok (.iload_n 0, 1) := by decide +kernel
theorem dJ9_abs_0f7a4_1 : decode cJ9_abs_0f7a4 1 = .ok (.ifCond .ge 8, 3) := by decide +kernel
theorem dJ9_abs_0f7a4_4 : decode cJ9_abs_0f7a4 4 = .ok (.iload_n 0, 1) := by decide +kernel
theorem dJ9_abs_0f7a4_5 : decode cJ9_abs_0f7a4 5 = .ok (.ineg, 1) := by decide +kernel
theorem dJ9_abs_0f7a4_6 : decode cJ9_abs_0f7a4 6 = .ok (.goto 4, 3) := by decide +kernel
theorem dJ9_abs_0f7a4_9 : decode cJ9_abs_0f7a4 9 = .ok (.iload_n 0, 1) := by decide +kernel
theorem dJ9_abs_0f7a4_10 : decode cJ9_abs_0f7a4 10 = .ok (.ireturn, 1) := by decide +kernel
theorem dJ9_max_7cf53_0 : decode cJ9_max_7cf53 0 = .ok (.iload_n 0, 1) := by decide +kernel
theorem dJ9_max_7cf53_1 : decode cJ9_max_7cf53 1 = .ok (.iload_n 1, 1) := by decide +kernel
theorem dJ9_max_7cf53_2 : decode cJ9_max_7cf53 2 = .ok (.if_icmp .lt 7, 3) := by decide +kernel
theorem dJ9_max_7cf53_5 : decode cJ9_max_7cf53 5 = .ok (.iload_n 0, 1) := by decide +kernel
theorem dJ9_max_7cf53_6 : decode cJ9_max_7cf53 6 = .ok (.goto 4, 3) := by decide +kernel
theorem dJ9_max_7cf53_9 : decode cJ9_max_7cf53 9 = .ok (.iload_n 1, 1) := by decide +kernel
theorem dJ9_max_7cf53_10 : decode cJ9_max_7cf53 10 = .ok (.ireturn, 1) := by decide +kernel
theorem dJ9_min_7cf53_0 : decode cJ9_min_7cf53 0 = .ok (.iload_n 0, 1) := by decide +kernel
theorem dJ9_min_7cf53_1 : decode cJ9_min_7cf53 1 = .ok (.iload_n 1, 1) := by decide +kernel
theorem dJ9_min_7cf53_2 : decode cJ9_min_7cf53 2 = .ok (.if_icmp .gt 7, 3) := by decide +kernel
theorem dJ9_min_7cf53_5 : decode cJ9_min_7cf53 5 = .ok (.iload_n 0, 1) := by decide +kernel
theorem dJ9_min_7cf53_6 : decode cJ9_min_7cf53 6 = .ok (.goto 4, 3) := by decide +kernel
theorem dJ9_min_7cf53_9 : decode cJ9_min_7cf53 9 = .ok (.iload_n 1, 1) := by decide +kernel
theorem dJ9_min_7cf53_10 : decode cJ9_min_7cf53 10 = .ok (.ireturn, 1) := by decide +kernel
theorem dL_element_0 : decode cL_element 0 = .ok (.aload_n 3, 1) := by decide +kernel
theorem dL_element_1 : decode cL_element 1 = .ok (.iconst 0, 1) := by decide +kernel
theorem dL_element_2 : decode cL_element 2 = .ok (.aload_n 0, 1) := by decide +kernel
theorem dL_element_3 : decode cL_element 3 = .ok (.iload_n 1, 1) := by decide +kernel
theorem dL_element_4 : decode cL_element 4 = .ok (.iload_n 2, 1) := by decide +kernel
theorem dL_element_5 : decode cL_element 5 = .ok (.invokevirtual 7, 3) := by decide +kernel
theorem dL_element_8 : decode cL_element 8 = .ok (.lastore, 1) := by decide +kernel
theorem dL_element_9 : decode cL_element 9 = .ok (.goto 11, 3) := by decide +kernel
theorem dL_element_12 : decode cL_element 12 = .ok (.astore 4, 2) := by decide +kernel
theorem dL_element_14 : decode cL_element 14 = .ok (.iconst 1, 1) := by decide +kernel
theorem dL_element_15 : decode cL_element 15 = .ok (.ireturn, 1) := by decide +kernel
theorem dL_element_16 : decode cL_element 16 = .ok (.astore 4, 2) := by decide +kernel
theorem dL_element_18 : decode cL_element 18 = .ok (.iconst 2, 1) := by decide +kernel
theorem dL_element_19 : decode cL_element 19 = .ok (.ireturn, 1) := by decide +kernel
theorem dL_element_20 : decode cL_element 20 = .ok (.iconst 0, 1) := by decide +kernel
theorem dL_element_21 : decode cL_element 21 = .ok (.ireturn, 1) := by decide +kernel
theorem dL_law_0 : decode cL_law 0 = .ok (.new 8, 3) := by decide +kernel
theorem dL_law_3 : decode cL_law 3 = .ok (.dup, 1) := by decide +kernel
theorem dL_law_4 : decode cL_law 4 = .ok (.invokespecial 17, 3) := by decide +kernel
theorem dL_law_7 : decode cL_law 7 = .ok (.astore_n 1, 1) := by decide +kernel
theorem dL_law_8 : decode cL_law 8 = .ok (.new 18, 3) := by decide +kernel
theorem dL_law_11 : decode cL_law 11 = .ok (.dup, 1) := by decide +kernel
theorem dL_law_12 : decode cL_law 12 = .ok (.invokespecial 20, 3) := by decide +kernel
theorem dL_law_15 : decode cL_law 15 = .ok (.astore_n 2, 1) := by decide +kernel
theorem dL_law_16 : decode cL_law 16 = .ok (.iconst 1, 1) := by decide +kernel
theorem dL_law_17 : decode cL_law 17 = .ok (.newarray .long, 2) := by decide +kernel
theorem dL_law_19 : decode cL_law 19 = .ok (.astore_n 3, 1) := by decide +kernel
theorem dL_law_20 : decode cL_law 20 = .ok (.iconst 0, 1) := by decide +kernel
theorem dL_law_21 : decode cL_law 21 = .ok (.istore 4, 2) := by decide +kernel
theorem dL_law_23 : decode cL_law 23 = .ok (.iload 4, 2) := by decide +kernel
theorem dL_law_25 : decode cL_law 25 = .ok (.aload_n 0, 1) := by decide +kernel
theorem dL_law_26 : decode cL_law 26 = .ok (.arraylength, 1) := by decide +kernel
theorem dL_law_27 : decode cL_law 27 = .ok (.bipush 6, 2) := by decide +kernel
theorem dL_law_29 : decode cL_law 29 = .ok (.isub, 1) := by decide +kernel
theorem dL_law_30 : decode cL_law 30 = .ok (.if_icmp .gt 1567, 3) := by decide +kernel
theorem dL_law_33 : decode cL_law 33 = .ok (.aload_n 0, 1) := by decide +kernel
theorem dL_law_34 : decode cL_law 34 = .ok (.iload 4, 2) := by decide +kernel
theorem dL_law_36 : decode cL_law 36 = .ok (.iaload, 1) := by decide +kernel
theorem dL_law_37 : decode cL_law 37 = .ok (.bipush 63, 2) := by decide +kernel
theorem dL_law_39 : decode cL_law 39 = .ok (.iand, 1) := by decide +kernel
theorem dL_law_40 : decode cL_law 40 = .ok (.tableswitch 1551 0 36 #[164, 189, 226, 263, 300, 337, 362, 387, 412, 437, 474, 487, 548, 597, 622, 659, 672, 685, 734, 795, 844, 881, 918, 979, 1028, 1077, 1126, 1163, 1176, 1189, 1214, 1263, 1312, 1361, 1428, 1501, 1526], 164) := by decide +kernel
theorem dL_law_204 : decode cL_law 204 = .ok (.aload_n 1, 1) := by decide +kernel
theorem dL_law_205 : decode cL_law 205 = .ok (.aload_n 0, 1) := by decide +kernel
theorem dL_law_206 : decode cL_law 206 = .ok (.iload 4, 2) := by decide +kernel
theorem dL_law_208 : decode cL_law 208 = .ok (.iconst 1, 1) := by decide +kernel
theorem dL_law_209 : decode cL_law 209 = .ok (.iadd, 1) := by decide +kernel
theorem dL_law_210 : decode cL_law 210 = .ok (.iaload, 1) := by decide +kernel
theorem dL_law_211 : decode cL_law 211 = .ok (.invokevirtual 21, 3) := by decide +kernel
theorem dL_law_214 : decode cL_law 214 = .ok (.aload_n 2, 1) := by decide +kernel
theorem dL_law_215 : decode cL_law 215 = .ok (.aload_n 0, 1) := by decide +kernel
theorem dL_law_216 : decode cL_law 216 = .ok (.iload 4, 2) := by decide +kernel
theorem dL_law_218 : decode cL_law 218 = .ok (.iconst 1, 1) := by decide +kernel
theorem dL_law_219 : decode cL_law 219 = .ok (.iadd, 1) := by decide +kernel
theorem dL_law_220 : decode cL_law 220 = .ok (.iaload, 1) := by decide +kernel
theorem dL_law_221 : decode cL_law 221 = .ok (.invokevirtual 25, 3) := by decide +kernel
theorem dL_law_224 : decode cL_law 224 = .ok (.if_icmp .eq 1367, 3) := by decide +kernel
theorem dL_law_227 : decode cL_law 227 = .ok (.iconst 0, 1) := by decide +kernel
theorem dL_law_228 : decode cL_law 228 = .ok (.ireturn, 1) := by decide +kernel
theorem dL_law_229 : decode cL_law 229 = .ok (.aload_n 1, 1) := by decide +kernel
theorem dL_law_230 : decode cL_law 230 = .ok (.aload_n 0, 1) := by decide +kernel
theorem dL_law_231 : decode cL_law 231 = .ok (.iload 4, 2) := by decide +kernel
theorem dL_law_233 : decode cL_law 233 = .ok (.iconst 1, 1) := by decide +kernel
theorem dL_law_234 : decode cL_law 234 = .ok (.iadd, 1) := by decide +kernel
theorem dL_law_235 : decode cL_law 235 = .ok (.iaload, 1) := by decide +kernel
theorem dL_law_236 : decode cL_law 236 = .ok (.aload_n 0, 1) := by decide +kernel
theorem dL_law_237 : decode cL_law 237 = .ok (.iload 4, 2) := by decide +kernel
theorem dL_law_239 : decode cL_law 239 = .ok (.iconst 2, 1) := by decide +kernel
theorem dL_law_240 : decode cL_law 240 = .ok (.iadd, 1) := by decide +kernel
theorem dL_law_241 : decode cL_law 241 = .ok (.iaload, 1) := by decide +kernel
theorem dL_law_242 : decode cL_law 242 = .ok (.invokevirtual 26, 3) := by decide +kernel
theorem dL_law_245 : decode cL_law 245 = .ok (.aload_n 2, 1) := by decide +kernel
theorem dL_law_246 : decode cL_law 246 = .ok (.aload_n 0, 1) := by decide +kernel
theorem dL_law_247 : decode cL_law 247 = .ok (.iload 4, 2) := by decide +kernel
theorem dL_law_249 : decode cL_law 249 = .ok (.iconst 1, 1) := by decide +kernel
theorem dL_law_250 : decode cL_law 250 = .ok (.iadd, 1) := by decide +kernel
theorem dL_law_251 : decode cL_law 251 = .ok (.iaload, 1) := by decide +kernel
theorem dL_law_252 : decode cL_law 252 = .ok (.aload_n 0, 1) := by decide +kernel
theorem dL_law_253 : decode cL_law 253 = .ok (.iload 4, 2) := by decide +kernel
theorem dL_law_255 : decode cL_law 255 = .ok (.iconst 2, 1) := by decide +kernel
theorem dL_law_256 : decode cL_law 256 = .ok (.iadd, 1) := by decide +kernel
theorem dL_law_257 : decode cL_law 257 = .ok (.iaload, 1) := by decide +kernel
theorem dL_law_258 : decode cL_law 258 = .ok (.invokevirtual 30, 3) := by decide +kernel
theorem dL_law_261 : decode cL_law 261 = .ok (.if_icmp .eq 1330, 3) := by decide +kernel
theorem dL_law_264 : decode cL_law 264 = .ok (.iconst 0, 1) := by decide +kernel
theorem dL_law_265 : decode cL_law 265 = .ok (.ireturn, 1) := by decide +kernel
theorem dL_law_266 : decode cL_law 266 = .ok (.aload_n 1, 1) := by decide +kernel
theorem dL_law_267 : decode cL_law 267 = .ok (.aload_n 0, 1) := by decide +kernel
theorem dL_law_268 : decode cL_law 268 = .ok (.iload 4, 2) := by decide +kernel
theorem dL_law_270 : decode cL_law 270 = .ok (.iconst 1, 1) := by decide +kernel
theorem dL_law_271 : decode cL_law 271 = .ok (.iadd, 1) := by decide +kernel
theorem dL_law_272 : decode cL_law 272 = .ok (.iaload, 1) := by decide +kernel
theorem dL_law_273 : decode cL_law 273 = .ok (.aload_n 0, 1) := by decide +kernel
theorem dL_law_274 : decode cL_law 274 = .ok (.iload 4, 2) := by decide +kernel
theorem dL_law_276 : decode cL_law 276 = .ok (.iconst 2, 1) := by decide +kernel
theorem dL_law_277 : decode cL_law 277 = .ok (.iadd, 1) := by decide +kernel
theorem dL_law_278 : decode cL_law 278 = .ok (.iaload, 1) := by decide +kernel
theorem dL_law_279 : decode cL_law 279 = .ok (.invokevirtual 31, 3) := by decide +kernel
theorem dL_law_282 : decode cL_law 282 = .ok (.aload_n 2, 1) := by decide +kernel
theorem dL_law_283 : decode cL_law 283 = .ok (.aload_n 0, 1) := by decide +kernel
theorem dL_law_284 : decode cL_law 284 = .ok (.iload 4, 2) := by decide +kernel
theorem dL_law_286 : decode cL_law 286 = .ok (.iconst 1, 1) := by decide +kernel
theorem dL_law_287 : decode cL_law 287 = .ok (.iadd, 1) := by decide +kernel
theorem dL_law_288 : decode cL_law 288 = .ok (.iaload, 1) := by decide +kernel
theorem dL_law_289 : decode cL_law 289 = .ok (.aload_n 0, 1) := by decide +kernel
theorem dL_law_290 : decode cL_law 290 = .ok (.iload 4, 2) := by decide +kernel
theorem dL_law_292 : decode cL_law 292 = .ok (.iconst 2, 1) := by decide +kernel
theorem dL_law_293 : decode cL_law 293 = .ok (.iadd, 1) := by decide +kernel
theorem dL_law_294 : decode cL_law 294 = .ok (.iaload, 1) := by decide +kernel
theorem dL_law_295 : decode cL_law 295 = .ok (.invokevirtual 34, 3) := by decide +kernel
theorem dL_law_298 : decode cL_law 298 = .ok (.if_icmp .eq 1293, 3) := by decide +kernel
theorem dL_law_301 : decode cL_law 301 = .ok (.iconst 0, 1) := by decide +kernel
theorem dL_law_302 : decode cL_law 302 = .ok (.ireturn, 1) := by decide +kernel
theorem dL_law_303 : decode cL_law 303 = .ok (.aload_n 1, 1) := by decide +kernel
theorem dL_law_304 : decode cL_law 304 = .ok (.aload_n 0, 1) := by decide +kernel
theorem dL_law_305 : decode cL_law 305 = .ok (.iload 4, 2) := by decide +kernel
theorem dL_law_307 : decode cL_law 307 = .ok (.iconst 1, 1) := by decide +kernel
theorem dL_law_308 : decode cL_law 308 = .ok (.iadd, 1) := by decide +kernel
theorem dL_law_309 : decode cL_law 309 = .ok (.iaload, 1) := by decide +kernel
theorem dL_law_310 : decode cL_law 310 = .ok (.aload_n 0, 1) := by decide +kernel
theorem dL_law_311 : decode cL_law 311 = .ok (.iload 4, 2) := by decide +kernel
theorem dL_law_313 : decode cL_law 313 = .ok (.iconst 2, 1) := by decide +kernel
theorem dL_law_314 : decode cL_law 314 = .ok (.iadd, 1) := by decide +kernel
theorem dL_law_315 : decode cL_law 315 = .ok (.iaload, 1) := by decide +kernel
theorem dL_law_316 : decode cL_law 316 = .ok (.invokevirtual 35, 3) := by decide +kernel
theorem dL_law_319 : decode cL_law 319 = .ok (.aload_n 2, 1) := by decide +kernel
theorem dL_law_320 : decode cL_law 320 = .ok (.aload_n 0, 1) := by decide +kernel
theorem dL_law_321 : decode cL_law 321 = .ok (.iload 4, 2) := by decide +kernel
theorem dL_law_323 : decode cL_law 323 = .ok (.iconst 1, 1) := by decide +kernel
theorem dL_law_324 : decode cL_law 324 = .ok (.iadd, 1) := by decide +kernel
theorem dL_law_325 : decode cL_law 325 = .ok (.iaload, 1) := by decide +kernel
theorem dL_law_326 : decode cL_law 326 = .ok (.aload_n 0, 1) := by decide +kernel
theorem dL_law_327 : decode cL_law 327 = .ok (.iload 4, 2) := by decide +kernel
theorem dL_law_329 : decode cL_law 329 = .ok (.iconst 2, 1) := by decide +kernel
theorem dL_law_330 : decode cL_law 330 = .ok (.iadd, 1) := by decide +kernel
theorem dL_law_331 : decode cL_law 331 = .ok (.iaload, 1) := by decide +kernel
theorem dL_law_332 : decode cL_law 332 = .ok (.invokevirtual 38, 3) := by decide +kernel
theorem dL_law_335 : decode cL_law 335 = .ok (.if_icmp .eq 1256, 3) := by decide +kernel
theorem dL_law_338 : decode cL_law 338 = .ok (.iconst 0, 1) := by decide +kernel
theorem dL_law_339 : decode cL_law 339 = .ok (.ireturn, 1) := by decide +kernel
theorem dL_law_340 : decode cL_law 340 = .ok (.aload_n 1, 1) := by decide +kernel
theorem dL_law_341 : decode cL_law 341 = .ok (.aload_n 0, 1) := by decide +kernel
theorem dL_law_342 : decode cL_law 342 = .ok (.iload 4, 2) := by decide +kernel
theorem dL_law_344 : decode cL_law 344 = .ok (.iconst 1, 1) := by decide +kernel
theorem dL_law_345 : decode cL_law 345 = .ok (.iadd, 1) := by decide +kernel
theorem dL_law_346 : decode cL_law 346 = .ok (.iaload, 1) := by decide +kernel
