theorem dX3_seemsNow_22 : decode cX3_seemsNow 22 = .ok (.aload_n 0, 1) := by decide +kernel
theorem dX3_seemsNow_23 : decode cX3_seemsNow 23 = .ok (.getfield 27, 3) := by decide +kernel
theorem dX3_seemsNow_26 : decode cX3_seemsNow 26 = .ok (.iload_n 3, 1) := by decide +kernel
theorem dX3_seemsNow_27 : decode cX3_seemsNow 27 = .ok (.iaload, 1) := by decide +kernel
theorem dX3_seemsNow_28 : decode cX3_seemsNow 28 = .ok (.invokestatic 70, 3) := by decide +kernel
theorem dX3_seemsNow_31 : decode cX3_seemsNow 31 = .ok (.iadd, 1) := by decide +kernel
theorem dX3_seemsNow_32 : decode cX3_seemsNow 32 = .ok (.istore_n 2, 1) := by decide +kernel
theorem dX3_seemsNow_33 : decode cX3_seemsNow 33 = .ok (.iinc 3 1, 3) := by decide +kernel
theorem dX3_seemsNow_36 : decode cX3_seemsNow 36 = .ok (.goto (-20), 3) := by decide +kernel
theorem dX3_seemsNow_39 : decode cX3_seemsNow 39 = .ok (.iload_n 2, 1) := by decide +kernel
theorem dX3_seemsNow_40 : decode cX3_seemsNow 40 = .ok (.ireturn, 1) := by decide +kernel
theorem dX3_waitNow_0 : decode cX3_waitNow 0 = .ok (.aload_n 0, 1) := by decide +kernel
theorem dX3_waitNow_1 : decode cX3_waitNow 1 = .ok (.aload_n 0, 1) := by decide +kernel
theorem dX3_waitNow_2 : decode cX3_waitNow 2 = .ok (.getfield 18, 3) := by decide +kernel
theorem dX3_waitNow_5 : decode cX3_waitNow 5 = .ok (.iconst 1, 1) := by decide +kernel
theorem dX3_waitNow_6 : decode cX3_waitNow 6 = .ok (.isub, 1) := by decide +kernel
theorem dX3_waitNow_7 : decode cX3_waitNow 7 = .ok (.invokevirtual 74, 3) := by decide +kernel
theorem dX3_waitNow_10 : decode cX3_waitNow 10 = .ok (.ireturn, 1) := by decide +kernel
theorem dX3_timeOfNext_0 : decode cX3_timeOfNext 0 = .ok (.aload_n 0, 1) := by decide +kernel
theorem dX3_timeOfNext_1 : decode cX3_timeOfNext 1 = .ok (.aload_n 0, 1) := by decide +kernel
theorem dX3_timeOfNext_2 : decode cX3_timeOfNext 2 = .ok (.getfield 18, 3) := by decide +kernel
theorem dX3_timeOfNext_5 : decode cX3_timeOfNext 5 = .ok (.iconst 1, 1) := by decide +kernel
theorem dX3_timeOfNext_6 : decode cX3_timeOfNext 6 = .ok (.isub, 1) := by decide +kernel
theorem dX3_timeOfNext_7 : decode cX3_timeOfNext 7 = .ok (.invokevirtual 74, 3) := by decide +kernel
theorem dX3_timeOfNext_10 : decode cX3_timeOfNext 10 = .ok (.aload_n 0, 1) := by decide +kernel
theorem dX3_timeOfNext_11 : decode cX3_timeOfNext 11 = .ok (.iload_n 1, 1) := by decide +kernel
theorem dX3_timeOfNext_12 : decode cX3_timeOfNext 12 = .ok (.invokevirtual 77, 3) := by decide +kernel
theorem dX3_timeOfNext_15 : decode cX3_timeOfNext 15 = .ok (.iadd, 1) := by decide +kernel
theorem dX3_timeOfNext_16 : decode cX3_timeOfNext 16 = .ok (.ireturn, 1) := by decide +kernel
theorem dX3_timeAt_0 : decode cX3_timeAt 0 = .ok (.aload_n 0, 1) := by decide +kernel
theorem dX3_timeAt_1 : decode cX3_timeAt 1 = .ok (.getfield 21, 3) := by decide +kernel
theorem dX3_timeAt_4 : decode cX3_timeAt 4 = .ok (.istore_n 2, 1) := by decide +kernel
theorem dX3_timeAt_5 : decode cX3_timeAt 5 = .ok (.iconst 1, 1) := by decide +kernel
theorem dX3_timeAt_6 : decode cX3_timeAt 6 = .ok (.istore_n 3, 1) := by decide +kernel
theorem dX3_timeAt_7 : decode cX3_timeAt 7 = .ok (.iload_n 3, 1) := by decide +kernel
theorem dX3_timeAt_8 : decode cX3_timeAt 8 = .ok (.iload_n 1, 1) := by decide +kernel
theorem dX3_timeAt_9 : decode cX3_timeAt 9 = .ok (.if_icmp .gt 30, 3) := by decide +kernel
theorem dX3_timeAt_12 : decode cX3_timeAt 12 = .ok (.iload_n 3, 1) := by decide +kernel
theorem dX3_timeAt_13 : decode cX3_timeAt 13 = .ok (.aload_n 0, 1) := by decide +kernel
theorem dX3_timeAt_14 : decode cX3_timeAt 14 = .ok (.getfield 18, 3) := by decide +kernel
theorem dX3_timeAt_17 : decode cX3_timeAt 17 = .ok (.if_icmp .ge 22, 3) := by decide +kernel
theorem dX3_timeAt_20 : decode cX3_timeAt 20 = .ok (.iload_n 2, 1) := by decide +kernel
theorem dX3_timeAt_21 : decode cX3_timeAt 21 = .ok (.aload_n 0, 1) := by decide +kernel
theorem dX3_timeAt_22 : decode cX3_timeAt 22 = .ok (.aload_n 0, 1) := by decide +kernel
theorem dX3_timeAt_23 : decode cX3_timeAt 23 = .ok (.getfield 27, 3) := by decide +kernel
theorem dX3_timeAt_26 : decode cX3_timeAt 26 = .ok (.iload_n 3, 1) := by decide +kernel
theorem dX3_timeAt_27 : decode cX3_timeAt 27 = .ok (.iaload, 1) := by decide +kernel
theorem dX3_timeAt_28 : decode cX3_timeAt 28 = .ok (.invokevirtual 77, 3) := by decide +kernel
theorem dX3_timeAt_31 : decode cX3_timeAt 31 = .ok (.iadd, 1) := by decide +kernel
theorem dX3_timeAt_32 : decode cX3_timeAt 32 = .ok (.istore_n 2, 1) := by decide +kernel
theorem dX3_timeAt_33 : decode cX3_timeAt 33 = .ok (.iinc 3 1, 3) := by decide +kernel
theorem dX3_timeAt_36 : decode cX3_timeAt 36 = .ok (.goto (-29), 3) := by decide +kernel
theorem dX3_timeAt_39 : decode cX3_timeAt 39 = .ok (.iload_n 2, 1) := by decide +kernel
theorem dX3_timeAt_40 : decode cX3_timeAt 40 = .ok (.ireturn, 1) := by decide +kernel
theorem dX3_timesTogether_0 : decode cX3_timesTogether 0 = .ok (.aload_n 0, 1) := by decide +kernel
theorem dX3_timesTogether_1 : decode cX3_timesTogether 1 = .ok (.getfield 21, 3) := by decide +kernel
theorem dX3_timesTogether_4 : decode cX3_timesTogether 4 = .ok (.istore_n 1, 1) := by decide +kernel
theorem dX3_timesTogether_5 : decode cX3_timesTogether 5 = .ok (.aload_n 0, 1) := by decide +kernel
theorem dX3_timesTogether_6 : decode cX3_timesTogether 6 = .ok (.getfield 21, 3) := by decide +kernel
theorem dX3_timesTogether_9 : decode cX3_timesTogether 9 = .ok (.istore_n 2, 1) := by decide +kernel
theorem dX3_timesTogether_10 : decode cX3_timesTogether 10 = .ok (.iconst 1, 1) := by decide +kernel
theorem dX3_timesTogether_11 : decode cX3_timesTogether 11 = .ok (.istore_n 3, 1) := by decide +kernel
theorem dX3_timesTogether_12 : decode cX3_timesTogether 12 = .ok (.iload_n 3, 1) := by decide +kernel
theorem dX3_timesTogether_13 : decode cX3_timesTogether 13 = .ok (.aload_n 0, 1) := by decide +kernel
theorem dX3_timesTogether_14 : decode cX3_timesTogether 14 = .ok (.getfield 18, 3) := by decide +kernel
theorem dX3_timesTogether_17 : decode cX3_timesTogether 17 = .ok (.if_icmp .ge 26, 3) := by decide +kernel
theorem dX3_timesTogether_20 : decode cX3_timesTogether 20 = .ok (.iload_n 1, 1) := by decide +kernel
theorem dX3_timesTogether_21 : decode cX3_timesTogether 21 = .ok (.aload_n 0, 1) := by decide +kernel
theorem dX3_timesTogether_22 : decode cX3_timesTogether 22 = .ok (.aload_n 0, 1) := by decide +kernel
theorem dX3_timesTogether_23 : decode cX3_timesTogether 23 = .ok (.getfield 27, 3) := by decide +kernel
theorem dX3_timesTogether_26 : decode cX3_timesTogether 26 = .ok (.iload_n 3, 1) := by decide +kernel
theorem dX3_timesTogether_27 : decode cX3_timesTogether 27 = .ok (.iaload, 1) := by decide +kernel
theorem dX3_timesTogether_28 : decode cX3_timesTogether 28 = .ok (.invokevirtual 77, 3) := by decide +kernel
theorem dX3_timesTogether_31 : decode cX3_timesTogether 31 = .ok (.iadd, 1) := by decide +kernel
theorem dX3_timesTogether_32 : decode cX3_timesTogether 32 = .ok (.istore_n 1, 1) := by decide +kernel
theorem dX3_timesTogether_33 : decode cX3_timesTogether 33 = .ok (.iload_n 2, 1) := by decide +kernel
theorem dX3_timesTogether_34 : decode cX3_timesTogether 34 = .ok (.iload_n 1, 1) := by decide +kernel
theorem dX3_timesTogether_35 : decode cX3_timesTogether 35 = .ok (.iadd, 1) := by decide +kernel
theorem dX3_timesTogether_36 : decode cX3_timesTogether 36 = .ok (.istore_n 2, 1) := by decide +kernel
theorem dX3_timesTogether_37 : decode cX3_timesTogether 37 = .ok (.iinc 3 1, 3) := by decide +kernel
theorem dX3_timesTogether_40 : decode cX3_timesTogether 40 = .ok (.goto (-28), 3) := by decide +kernel
theorem dX3_timesTogether_43 : decode cX3_timesTogether 43 = .ok (.iload_n 2, 1) := by decide +kernel
theorem dX3_timesTogether_44 : decode cX3_timesTogether 44 = .ok (.ireturn, 1) := by decide +kernel
theorem dX3_comeIn_0 : decode cX3_comeIn 0 = .ok (.aload_n 0, 1) := by decide +kernel
theorem dX3_comeIn_1 : decode cX3_comeIn 1 = .ok (.invokevirtual 54, 3) := by decide +kernel
theorem dX3_comeIn_4 : decode cX3_comeIn 4 = .ok (.ifCond .ne 4, 3) := by decide +kernel
theorem dX3_comeIn_7 : decode cX3_comeIn 7 = .ok (.return_, 1) := by decide +kernel
theorem dX3_comeIn_8 : decode cX3_comeIn 8 = .ok (.aload_n 0, 1) := by decide +kernel
theorem dX3_comeIn_9 : decode cX3_comeIn 9 = .ok (.getfield 27, 3) := by decide +kernel
theorem dX3_comeIn_12 : decode cX3_comeIn 12 = .ok (.aload_n 0, 1) := by decide +kernel
theorem dX3_comeIn_13 : decode cX3_comeIn 13 = .ok (.getfield 18, 3) := by decide +kernel
theorem dX3_comeIn_16 : decode cX3_comeIn 16 = .ok (.iload_n 1, 1) := by decide +kernel
theorem dX3_comeIn_17 : decode cX3_comeIn 17 = .ok (.iastore, 1) := by decide +kernel
theorem dX3_comeIn_18 : decode cX3_comeIn 18 = .ok (.aload_n 0, 1) := by decide +kernel
theorem dX3_comeIn_19 : decode cX3_comeIn 19 = .ok (.dup, 1) := by decide +kernel
theorem dX3_comeIn_20 : decode cX3_comeIn 20 = .ok (.getfield 18, 3) := by decide +kernel
theorem dX3_comeIn_23 : decode cX3_comeIn 23 = .ok (.iconst 1, 1) := by decide +kernel
theorem dX3_comeIn_24 : decode cX3_comeIn 24 = .ok (.iadd, 1) := by decide +kernel
theorem dX3_comeIn_25 : decode cX3_comeIn 25 = .ok (.putfield 18, 3) := by decide +kernel
theorem dX3_comeIn_28 : decode cX3_comeIn 28 = .ok (.aload_n 0, 1) := by decide +kernel
theorem dX3_comeIn_29 : decode cX3_comeIn 29 = .ok (.getfield 18, 3) := by decide +kernel
theorem dX3_comeIn_32 : decode cX3_comeIn 32 = .ok (.iconst 1, 1) := by decide +kernel
theorem dX3_comeIn_33 : decode cX3_comeIn 33 = .ok (.if_icmp .ne 12, 3) := by decide +kernel
theorem dX3_comeIn_36 : decode cX3_comeIn 36 = .ok (.aload_n 0, 1) := by decide +kernel
theorem dX3_comeIn_37 : decode cX3_comeIn 37 = .ok (.aload_n 0, 1) := by decide +kernel
theorem dX3_comeIn_38 : decode cX3_comeIn 38 = .ok (.iload_n 1, 1) := by decide +kernel
theorem dX3_comeIn_39 : decode cX3_comeIn 39 = .ok (.invokevirtual 77, 3) := by decide +kernel
theorem dX3_comeIn_42 : decode cX3_comeIn 42 = .ok (.putfield 21, 3) := by decide +kernel
theorem dX3_comeIn_45 : decode cX3_comeIn 45 = .ok (.return_, 1) := by decide +kernel
theorem dX3_goOut_0 : decode cX3_goOut 0 = .ok (.aload_n 0, 1) := by decide +kernel
theorem dX3_goOut_1 : decode cX3_goOut 1 = .ok (.getfield 27, 3) := by decide +kernel
theorem dX3_goOut_4 : decode cX3_goOut 4 = .ok (.iload_n 1, 1) := by decide +kernel
theorem dX3_goOut_5 : decode cX3_goOut 5 = .ok (.iaload, 1) := by decide +kernel
theorem dX3_goOut_6 : decode cX3_goOut 6 = .ok (.istore_n 2, 1) := by decide +kernel
theorem dX3_goOut_7 : decode cX3_goOut 7 = .ok (.aload_n 0, 1) := by decide +kernel
theorem dX3_goOut_8 : decode cX3_goOut 8 = .ok (.iload_n 1, 1) := by decide +kernel
theorem dX3_goOut_9 : decode cX3_goOut 9 = .ok (.invokevirtual 80, 3) := by decide +kernel
theorem dX3_goOut_12 : decode cX3_goOut 12 = .ok (.iload_n 2, 1) := by decide +kernel
theorem dX3_goOut_13 : decode cX3_goOut 13 = .ok (.ireturn, 1) := by decide +kernel
theorem dX3_closeUp_0 : decode cX3_closeUp 0 = .ok (.iload_n 1, 1) := by decide +kernel
theorem dX3_closeUp_1 : decode cX3_closeUp 1 = .ok (.iconst 1, 1) := by decide +kernel
theorem dX3_closeUp_2 : decode cX3_closeUp 2 = .ok (.iadd, 1) := by decide +kernel
theorem dX3_closeUp_3 : decode cX3_closeUp 3 = .ok (.istore_n 2, 1) := by decide +kernel
theorem dX3_closeUp_4 : decode cX3_closeUp 4 = .ok (.iload_n 2, 1) := by decide +kernel
theorem dX3_closeUp_5 : decode cX3_closeUp 5 = .ok (.aload_n 0, 1) := by decide +kernel
theorem dX3_closeUp_6 : decode cX3_closeUp 6 = .ok (.getfield 18, 3) := by decide +kernel
theorem dX3_closeUp_9 : decode cX3_closeUp 9 = .ok (.if_icmp .ge 23, 3) := by decide +kernel
theorem dX3_closeUp_12 : decode cX3_closeUp 12 = .ok (.aload_n 0, 1) := by decide +kernel
theorem dX3_closeUp_13 : decode cX3_closeUp 13 = .ok (.getfield 27, 3) := by decide +kernel
theorem dX3_closeUp_16 : decode cX3_closeUp 16 = .ok (.iload_n 2, 1) := by decide +kernel
theorem dX3_closeUp_17 : decode cX3_closeUp 17 = .ok (.iconst 1, 1) := by decide +kernel
theorem dX3_closeUp_18 : decode cX3_closeUp 18 = .ok (.isub, 1) := by decide +kernel
theorem dX3_closeUp_19 : decode cX3_closeUp 19 = .ok (.aload_n 0, 1) := by decide +kernel
theorem dX3_closeUp_20 : decode cX3_closeUp 20 = .ok (.getfield 27, 3) := by decide +kernel
theorem dX3_closeUp_23 : decode cX3_closeUp 23 = .ok (.iload_n 2, 1) := by decide +kernel
theorem dX3_closeUp_24 : decode cX3_closeUp 24 = .ok (.iaload, 1) := by decide +kernel
theorem dX3_closeUp_25 : decode cX3_closeUp 25 = .ok (.iastore, 1) := by decide +kernel
theorem dX3_closeUp_26 : decode cX3_closeUp 26 = .ok (.iinc 2 1, 3) := by decide +kernel
theorem dX3_closeUp_29 : decode cX3_closeUp 29 = .ok (.goto (-25), 3) := by decide +kernel
theorem dX3_closeUp_32 : decode cX3_closeUp 32 = .ok (.aload_n 0, 1) := by decide +kernel
theorem dX3_closeUp_33 : decode cX3_closeUp 33 = .ok (.dup, 1) := by decide +kernel
theorem dX3_closeUp_34 : decode cX3_closeUp 34 = .ok (.getfield 18, 3) := by decide +kernel
theorem dX3_closeUp_37 : decode cX3_closeUp 37 = .ok (.iconst 1, 1) := by decide +kernel
theorem dX3_closeUp_38 : decode cX3_closeUp 38 = .ok (.isub, 1) := by decide +kernel
theorem dX3_closeUp_39 : decode cX3_closeUp 39 = .ok (.putfield 18, 3) := by decide +kernel
theorem dX3_closeUp_42 : decode cX3_closeUp 42 = .ok (.return_, 1) := by decide +kernel
theorem dX3_minuteGoes_0 : decode cX3_minuteGoes 0 = .ok (.aload_n 0, 1) := by decide +kernel
theorem dX3_minuteGoes_1 : decode cX3_minuteGoes 1 = .ok (.getfield 18, 3) := by decide +kernel
theorem dX3_minuteGoes_4 : decode cX3_minuteGoes 4 = .ok (.ifCond .ne 5, 3) := by decide +kernel
theorem dX3_minuteGoes_7 : decode cX3_minuteGoes 7 = .ok (.iconst 0, 1) := by decide +kernel
theorem dX3_minuteGoes_8 : decode cX3_minuteGoes 8 = .ok (.ireturn, 1) := by decide +kernel
theorem dX3_minuteGoes_9 : decode cX3_minuteGoes 9 = .ok (.aload_n 0, 1) := by decide +kernel
theorem dX3_minuteGoes_10 : decode cX3_minuteGoes 10 = .ok (.dup, 1) := by decide +kernel
theorem dX3_minuteGoes_11 : decode cX3_minuteGoes 11 = .ok (.getfield 21, 3) := by decide +kernel
theorem dX3_minuteGoes_14 : decode cX3_minuteGoes 14 = .ok (.iconst 1, 1) := by decide +kernel
theorem dX3_minuteGoes_15 : decode cX3_minuteGoes 15 = .ok (.isub, 1) := by decide +kernel
theorem dX3_minuteGoes_16 : decode cX3_minuteGoes 16 = .ok (.putfield 21, 3) := by decide +kernel
theorem dX3_minuteGoes_19 : decode cX3_minuteGoes 19 = .ok (.aload_n 0, 1) := by decide +kernel
theorem dX3_minuteGoes_20 : decode cX3_minuteGoes 20 = .ok (.getfield 21, 3) := by decide +kernel
theorem dX3_minuteGoes_23 : decode cX3_minuteGoes 23 = .ok (.ifCond .le 5, 3) := by decide +kernel
theorem dX3_minuteGoes_26 : decode cX3_minuteGoes 26 = .ok (.iconst 0, 1) := by decide +kernel
theorem dX3_minuteGoes_27 : decode cX3_minuteGoes 27 = .ok (.ireturn, 1) := by decide +kernel
theorem dX3_minuteGoes_28 : decode cX3_minuteGoes 28 = .ok (.aload_n 0, 1) := by decide +kernel
theorem dX3_minuteGoes_29 : decode cX3_minuteGoes 29 = .ok (.iconst 0, 1) := by decide +kernel
theorem dX3_minuteGoes_30 : decode cX3_minuteGoes 30 = .ok (.invokevirtual 80, 3) := by decide +kernel
theorem dX3_minuteGoes_33 : decode cX3_minuteGoes 33 = .ok (.aload_n 0, 1) := by decide +kernel
theorem dX3_minuteGoes_34 : decode cX3_minuteGoes 34 = .ok (.dup, 1) := by decide +kernel
theorem dX3_minuteGoes_35 : decode cX3_minuteGoes 35 = .ok (.getfield 24, 3) := by decide +kernel
theorem dX3_minuteGoes_38 : decode cX3_minuteGoes 38 = .ok (.iconst 1, 1) := by decide +kernel
theorem dX3_minuteGoes_39 : decode cX3_minuteGoes 39 = .ok (.iadd, 1) := by decide +kernel
theorem dX3_minuteGoes_40 : decode cX3_minuteGoes 40 = .ok (.putfield 24, 3) := by decide +kernel
theorem dX3_minuteGoes_43 : decode cX3_minuteGoes 43 = .ok (.aload_n 0, 1) := by decide +kernel
theorem dX3_minuteGoes_44 : decode cX3_minuteGoes 44 = .ok (.aload_n 0, 1) := by decide +kernel
theorem dX3_minuteGoes_45 : decode cX3_minuteGoes 45 = .ok (.getfield 18, 3) := by decide +kernel
theorem dX3_minuteGoes_48 : decode cX3_minuteGoes 48 = .ok (.ifCond .le 16, 3) := by decide +kernel
theorem dX3_minuteGoes_51 : decode cX3_minuteGoes 51 = .ok (.aload_n 0, 1) := by decide +kernel
theorem dX3_minuteGoes_52 : decode cX3_minuteGoes 52 = .ok (.aload_n 0, 1) := by decide +kernel
theorem dX3_minuteGoes_53 : decode cX3_minuteGoes 53 = .ok (.getfield 27, 3) := by decide +kernel
theorem dX3_minuteGoes_56 : decode cX3_minuteGoes 56 = .ok (.iconst 0, 1) := by decide +kernel
theorem dX3_minuteGoes_57 : decode cX3_minuteGoes 57 = .ok (.iaload, 1) := by decide +kernel
theorem dX3_minuteGoes_58 : decode cX3_minuteGoes 58 = .ok (.invokevirtual 77, 3) := by decide +kernel
theorem dX3_minuteGoes_61 : decode cX3_minuteGoes 61 = .ok (.goto 4, 3) := by decide +kernel
theorem dX3_minuteGoes_64 : decode cX3_minuteGoes 64 = .ok (.iconst 0, 1) := by decide +kernel
theorem dX3_minuteGoes_65 : decode cX3_minuteGoes 65 = .ok (.putfield 21, 3) := by decide +kernel
theorem dX3_minuteGoes_68 : decode cX3_minuteGoes 68 = .ok (.iconst 1, 1) := by decide +kernel
theorem dX3_minuteGoes_69 : decode cX3_minuteGoes 69 = .ok (.ireturn, 1) := by decide +kernel
theorem dX4_init_0 : decode cX4_init 0 = .ok (.aload_n 0, 1) := by decide +kernel
theorem dX4_init_1 : decode cX4_init 1 = .ok (.invokespecial 3, 3) := by decide +kernel
theorem dX4_init_4 : decode cX4_init 4 = .ok (.aload_n 0, 1) := by decide +kernel
theorem dX4_init_5 : decode cX4_init 5 = .ok (.iconst 0, 1) := by decide +kernel
theorem dX4_init_6 : decode cX4_init 6 = .ok (.putfield 11, 3) := by decide +kernel
theorem dX4_init_9 : decode cX4_init 9 = .ok (.aload_n 0, 1) := by decide +kernel
theorem dX4_init_10 : decode cX4_init 10 = .ok (.iconst 0, 1) := by decide +kernel
theorem dX4_init_11 : decode cX4_init 11 = .ok (.putfield 15, 3) := by decide +kernel
theorem dX4_init_14 : decode cX4_init 14 = .ok (.aload_n 0, 1) := by decide +kernel
theorem dX4_init_15 : decode cX4_init 15 = .ok (.iconst 0, 1) := by decide +kernel
theorem dX4_init_16 : decode cX4_init 16 = .ok (.putfield 18, 3) := by decide +kernel
theorem dX4_init_19 : decode cX4_init 19 = .ok (.aload_n 0, 1) := by decide +kernel
theorem dX4_init_20 : decode cX4_init 20 = .ok (.iconst 0, 1) := by decide +kernel
theorem dX4_init_21 : decode cX4_init 21 = .ok (.putfield 21, 3) := by decide +kernel
theorem dX4_init_24 : decode cX4_init 24 = .ok (.aload_n 0, 1) := by decide +kernel
theorem dX4_init_25 : decode cX4_init 25 = .ok (.iconst 0, 1) := by decide +kernel
theorem dX4_init_26 : decode cX4_init 26 = .ok (.putfield 24, 3) := by decide +kernel
theorem dX4_init_29 : decode cX4_init 29 = .ok (.aload_n 0, 1) := by decide +kernel
theorem dX4_init_30 : decode cX4_init 30 = .ok (.iconst 0, 1) := by decide +kernel
theorem dX4_init_31 : decode cX4_init 31 = .ok (.putfield 27, 3) := by decide +kernel
theorem dX4_init_34 : decode cX4_init 34 = .ok (.aload_n 0, 1) := by decide +kernel
theorem dX4_init_35 : decode cX4_init 35 = .ok (.bipush 100, 2) := by decide +kernel
theorem dX4_init_37 : decode cX4_init 37 = .ok (.newarray .int, 2) := by decide +kernel
theorem dX4_init_39 : decode cX4_init 39 = .ok (.putfield 30, 3) := by decide +kernel
theorem dX4_init_42 : decode cX4_init 42 = .ok (.return_, 1) := by decide +kernel
theorem dX4_holdNothing_0 : decode cX4_holdNothing 0 = .ok (.aload_n 0, 1) := by decide +kernel
theorem dX4_holdNothing_1 : decode cX4_holdNothing 1 = .ok (.iconst 0, 1) := by decide +kernel
theorem dX4_holdNothing_2 : decode cX4_holdNothing 2 = .ok (.putfield 11, 3) := by decide +kernel
theorem dX4_holdNothing_5 : decode cX4_holdNothing 5 = .ok (.return_, 1) := by decide +kernel
theorem dX4_holdLane_0 : decode cX4_holdLane 0 = .ok (.aload_n 0, 1) := by decide +kernel
theorem dX4_holdLane_1 : decode cX4_holdLane 1 = .ok (.iconst 1, 1) := by decide +kernel
theorem dX4_holdLane_2 : decode cX4_holdLane 2 = .ok (.putfield 11, 3) := by decide +kernel
theorem dX4_holdLane_5 : decode cX4_holdLane 5 = .ok (.aload_n 0, 1) := by decide +kernel
theorem dX4_holdLane_6 : decode cX4_holdLane 6 = .ok (.iload_n 1, 1) := by decide +kernel
theorem dX4_holdLane_7 : decode cX4_holdLane 7 = .ok (.putfield 15, 3) := by decide +kernel
theorem dX4_holdLane_10 : decode cX4_holdLane 10 = .ok (.aload_n 0, 1) := by decide +kernel
theorem dX4_holdLane_11 : decode cX4_holdLane 11 = .ok (.aload_n 2, 1) := by decide +kernel
theorem dX4_holdLane_12 : decode cX4_holdLane 12 = .ok (.getfield 34, 3) := by decide +kernel
theorem dX4_holdLane_15 : decode cX4_holdLane 15 = .ok (.putfield 18, 3) := by decide +kernel
theorem dX4_holdLane_18 : decode cX4_holdLane 18 = .ok (.aload_n 0, 1) := by decide +kernel
theorem dX4_holdLane_19 : decode cX4_holdLane 19 = .ok (.aload_n 2, 1) := by decide +kernel
theorem dX4_holdLane_20 : decode cX4_holdLane 20 = .ok (.getfield 37, 3) := by decide +kernel
theorem dX4_holdLane_23 : decode cX4_holdLane 23 = .ok (.putfield 21, 3) := by decide +kernel
theorem dX4_holdLane_26 : decode cX4_holdLane 26 = .ok (.return_, 1) := by decide +kernel
theorem dX4_holdRow_0 : decode cX4_holdRow 0 = .ok (.aload_n 0, 1) := by decide +kernel
theorem dX4_holdRow_1 : decode cX4_holdRow 1 = .ok (.iconst 2, 1) := by decide +kernel
theorem dX4_holdRow_2 : decode cX4_holdRow 2 = .ok (.putfield 11, 3) := by decide +kernel
theorem dX4_holdRow_5 : decode cX4_holdRow 5 = .ok (.aload_n 0, 1) := by decide +kernel
theorem dX4_holdRow_6 : decode cX4_holdRow 6 = .ok (.iload_n 1, 1) := by decide +kernel
theorem dX4_holdRow_7 : decode cX4_holdRow 7 = .ok (.putfield 24, 3) := by decide +kernel
theorem dX4_holdRow_10 : decode cX4_holdRow 10 = .ok (.aload_n 0, 1) := by decide +kernel
theorem dX4_holdRow_11 : decode cX4_holdRow 11 = .ok (.iload_n 2, 1) := by decide +kernel
theorem dX4_holdRow_12 : decode cX4_holdRow 12 = .ok (.putfield 27, 3) := by decide +kernel
theorem dX4_holdRow_15 : decode cX4_holdRow 15 = .ok (.iconst 0, 1) := by decide +kernel
theorem dX4_holdRow_16 : decode cX4_holdRow 16 = .ok (.istore_n 3, 1) := by decide +kernel
theorem dX4_holdRow_17 : decode cX4_holdRow 17 = .ok (.iload_n 3, 1) := by decide +kernel
theorem dX4_holdRow_18 : decode cX4_holdRow 18 = .ok (.iload_n 2, 1) := by decide +kernel
theorem dX4_holdRow_19 : decode cX4_holdRow 19 = .ok (.if_icmp .ge 16, 3) := by decide +kernel
theorem dX4_holdRow_22 : decode cX4_holdRow 22 = .ok (.aload_n 0, 1) := by decide +kernel
theorem dX4_holdRow_23 : decode cX4_holdRow 23 = .ok (.getfield 30, 3) := by decide +kernel
theorem dX4_holdRow_26 : decode cX4_holdRow 26 = .ok (.iload_n 3, 1) := by decide +kernel
theorem dX4_holdRow_27 : decode cX4_holdRow 27 = .ok (.iconst 0, 1) := by decide +kernel
theorem dX4_holdRow_28 : decode cX4_holdRow 28 = .ok (.iastore, 1) := by decide +kernel
theorem dX4_holdRow_29 : decode cX4_holdRow 29 = .ok (.iinc 3 1, 3) := by decide +kernel
theorem dX4_holdRow_32 : decode cX4_holdRow 32 = .ok (.goto (-15), 3) := by decide +kernel
theorem dX4_holdRow_35 : decode cX4_holdRow 35 = .ok (.return_, 1) := by decide +kernel
theorem dX4_hasElement_0 : decode cX4_hasElement 0 = .ok (.aload_n 0, 1) := by decide +kernel
theorem dX4_hasElement_1 : decode cX4_hasElement 1 = .ok (.getfield 11, 3) := by decide +kernel
theorem dX4_hasElement_4 : decode cX4_hasElement 4 = .ok (.iconst 2, 1) := by decide +kernel
theorem dX4_hasElement_5 : decode cX4_hasElement 5 = .ok (.if_icmp .ne 19, 3) := by decide +kernel
theorem dX4_hasElement_8 : decode cX4_hasElement 8 = .ok (.iload_n 1, 1) := by decide +kernel
theorem dX4_hasElement_9 : decode cX4_hasElement 9 = .ok (.ifCond .lt 15, 3) := by decide +kernel
theorem dX4_hasElement_12 : decode cX4_hasElement 12 = .ok (.iload_n 1, 1) := by decide +kernel
theorem dX4_hasElement_13 : decode cX4_hasElement 13 = .ok (.aload_n 0, 1) := by decide +kernel
theorem dX4_hasElement_14 : decode cX4_hasElement 14 = .ok (.getfield 27, 3) := by decide +kernel
theorem dX4_hasElement_17 : decode cX4_hasElement 17 = .ok (.if_icmp .ge 7, 3) := by decide +kernel
theorem dX4_hasElement_20 : decode cX4_hasElement 20 = .ok (.iconst 1, 1) := by decide +kernel
theorem dX4_hasElement_21 : decode cX4_hasElement 21 = .ok (.goto 4, 3) := by decide +kernel
theorem dX4_hasElement_24 : decode cX4_hasElement 24 = .ok (.iconst 0, 1) := by decide +kernel
theorem dX4_hasElement_25 : decode cX4_hasElement 25 = .ok (.ireturn, 1) := by decide +kernel
theorem dX4_hasElements_0 : decode cX4_hasElements 0 = .ok (.iload_n 1, 1) := by decide +kernel
theorem dX4_hasElements_1 : decode cX4_hasElements 1 = .ok (.ifCond .lt 29, 3) := by decide +kernel
theorem dX4_hasElements_4 : decode cX4_hasElements 4 = .ok (.iload_n 2, 1) := by decide +kernel
theorem dX4_hasElements_5 : decode cX4_hasElements 5 = .ok (.ifCond .lt 25, 3) := by decide +kernel
theorem dX4_hasElements_8 : decode cX4_hasElements 8 = .ok (.iload_n 2, 1) := by decide +kernel
theorem dX4_hasElements_9 : decode cX4_hasElements 9 = .ok (.aload_n 0, 1) := by decide +kernel
theorem dX4_hasElements_10 : decode cX4_hasElements 10 = .ok (.getfield 27, 3) := by decide +kernel
theorem dX4_hasElements_13 : decode cX4_hasElements 13 = .ok (.if_icmp .gt 17, 3) := by decide +kernel
theorem dX4_hasElements_16 : decode cX4_hasElements 16 = .ok (.iload_n 1, 1) := by decide +kernel
theorem dX4_hasElements_17 : decode cX4_hasElements 17 = .ok (.aload_n 0, 1) := by decide +kernel
theorem dX4_hasElements_18 : decode cX4_hasElements 18 = .ok (.getfield 27, 3) := by decide +kernel
theorem dX4_hasElements_21 : decode cX4_hasElements 21 = .ok (.iload_n 2, 1) := by decide +kernel
theorem dX4_hasElements_22 : decode cX4_hasElements 22 = .ok (.isub, 1) := by decide +kernel
theorem dX4_hasElements_23 : decode cX4_hasElements 23 = .ok (.if_icmp .gt 7, 3) := by decide +kernel
theorem dX4_hasElements_26 : decode cX4_hasElements 26 = .ok (.iconst 1, 1) := by decide +kernel
theorem dX4_hasElements_27 : decode cX4_hasElements 27 = .ok (.goto 4, 3) := by decide +kernel
theorem dX4_hasElements_30 : decode cX4_hasElements 30 = .ok (.iconst 0, 1) := by decide +kernel
theorem dX4_hasElements_31 : decode cX4_hasElements 31 = .ok (.ireturn, 1) := by decide +kernel
theorem dX4_lowestBits_0 : decode cX4_lowestBits 0 = .ok (.aload_n 0, 1) := by decide +kernel
theorem dX4_lowestBits_1 : decode cX4_lowestBits 1 = .ok (.getfield 24, 3) := by decide +kernel
theorem dX4_lowestBits_4 : decode cX4_lowestBits 4 = .ok (.lookupswitch 34 #[(0, 28), (1, 31)], 28) := by decide +kernel
theorem dX4_lowestBits_32 : decode cX4_lowestBits 32 = .ok (.iload_n 1, 1) := by decide +kernel
theorem dX4_lowestBits_33 : decode cX4_lowestBits 33 = .ok (.i2b, 1) := by decide +kernel
theorem dX4_lowestBits_34 : decode cX4_lowestBits 34 = .ok (.ireturn, 1) := by decide +kernel
theorem dX4_lowestBits_35 : decode cX4_lowestBits 35 = .ok (.iload_n 1, 1) := by decide +kernel
theorem dX4_lowestBits_36 : decode cX4_lowestBits 36 = .ok (.i2s, 1) := by decide +kernel
theorem dX4_lowestBits_37 : decode cX4_lowestBits 37 = .ok (.ireturn, 1) := by decide +kernel
theorem dX4_lowestBits_38 : decode cX4_lowestBits 38 = .ok (.iload_n 1, 1) := by decide +kernel
theorem dX4_lowestBits_39 : decode cX4_lowestBits 39 = .ok (.ireturn, 1) := by decide +kernel
theorem dX4_leastNumber_0 : decode cX4_leastNumber 0 = .ok (.aload_n 0, 1) := by decide +kernel
theorem dX4_leastNumber_1 : decode cX4_leastNumber 1 = .ok (.getfield 24, 3) := by decide +kernel
theorem dX4_leastNumber_4 : decode cX4_leastNumber 4 = .ok (.lookupswitch 35 #[(0, 28), (1, 31)], 28) := by decide +kernel
theorem dX4_leastNumber_32 : decode cX4_leastNumber 32 = .ok (.bipush (-128), 2) := by decide +kernel
theorem dX4_leastNumber_34 : decode cX4_leastNumber 34 = .ok (.ireturn, 1) := by decide +kernel
theorem dX4_leastNumber_35 : decode cX4_leastNumber 35 = .ok (.sipush (-32768), 3) := by decide +kernel
theorem dX4_leastNumber_38 : decode cX4_leastNumber 38 = .ok (.ireturn, 1) := by decide +kernel
theorem dX4_leastNumber_39 : decode cX4_leastNumber 39 = .ok (.ldc 40, 2) := by decide +kernel
theorem dX4_leastNumber_41 : decode cX4_leastNumber 41 = .ok (.ireturn, 1) := by decide +kernel
theorem dX5_init_0 : decode cX5_init 0 = .ok (.aload_n 0, 1) := by decide +kernel
theorem dX5_init_1 : decode cX5_init 1 = .ok (.invokespecial 1, 3) := by decide +kernel
theorem dX5_init_4 : decode cX5_init 4 = .ok (.aload_n 0, 1) := by decide +kernel
theorem dX5_init_5 : decode cX5_init 5 = .ok (.new 7, 3) := by decide +kernel
theorem dX5_init_8 : decode cX5_init 8 = .ok (.dup, 1) := by decide +kernel
theorem dX5_init_9 : decode cX5_init 9 = .ok (.invokespecial 9, 3) := by decide +kernel
theorem dX5_init_12 : decode cX5_init 12 = .ok (.putfield 10, 3) := by decide +kernel
theorem dX5_init_15 : decode cX5_init 15 = .ok (.aload_n 0, 1) := by decide +kernel
theorem dX5_init_16 : decode cX5_init 16 = .ok (.new 7, 3) := by decide +kernel
theorem dX5_init_19 : decode cX5_init 19 = .ok (.dup, 1) := by decide +kernel
theorem dX5_init_20 : decode cX5_init 20 = .ok (.invokespecial 9, 3) := by decide +kernel
theorem dX5_init_23 : decode cX5_init 23 = .ok (.putfield 16, 3) := by decide +kernel
theorem dX5_init_26 : decode cX5_init 26 = .ok (.aload_n 0, 1) := by decide +kernel
theorem dX5_init_27 : decode cX5_init 27 = .ok (.new 7, 3) := by decide +kernel
theorem dX5_init_30 : decode cX5_init 30 = .ok (.dup, 1) := by decide +kernel
theorem dX5_init_31 : decode cX5_init 31 = .ok (.invokespecial 9, 3) := by decide +kernel
theorem dX5_init_34 : decode cX5_init 34 = .ok (.putfield 19, 3) := by decide +kernel
theorem dX5_init_37 : decode cX5_init 37 = .ok (.aload_n 0, 1) := by decide +kernel
theorem dX5_init_38 : decode cX5_init 38 = .ok (.iconst 0, 1) := by decide +kernel
theorem dX5_init_39 : decode cX5_init 39 = .ok (.putfield 22, 3) := by decide +kernel
theorem dX5_init_42 : decode cX5_init 42 = .ok (.aload_n 0, 1) := by decide +kernel
theorem dX5_init_43 : decode cX5_init 43 = .ok (.bipush 8, 2) := by decide +kernel
theorem dX5_init_45 : decode cX5_init 45 = .ok (.anewarray 26, 3) := by decide +kernel
theorem dX5_init_48 : decode cX5_init 48 = .ok (.putfield 28, 3) := by decide +kernel
theorem dX5_init_51 : decode cX5_init 51 = .ok (.aload_n 0, 1) := by decide +kernel
theorem dX5_init_52 : decode cX5_init 52 = .ok (.iconst 5, 1) := by decide +kernel
theorem dX5_init_53 : decode cX5_init 53 = .ok (.newarray .int, 2) := by decide +kernel
theorem dX5_init_55 : decode cX5_init 55 = .ok (.putfield 32, 3) := by decide +kernel
theorem dX5_init_58 : decode cX5_init 58 = .ok (.aload_n 0, 1) := by decide +kernel
theorem dX5_init_59 : decode cX5_init 59 = .ok (.bipush 40, 2) := by decide +kernel
theorem dX5_init_61 : decode cX5_init 61 = .ok (.newarray .int, 2) := by decide +kernel
theorem dX5_init_63 : decode cX5_init 63 = .ok (.putfield 36, 3) := by decide +kernel
theorem dX5_init_66 : decode cX5_init 66 = .ok (.aload_n 0, 1) := by decide +kernel
theorem dX5_init_67 : decode cX5_init 67 = .ok (.iconst 5, 1) := by decide +kernel
theorem dX5_init_68 : decode cX5_init 68 = .ok (.newarray .int, 2) := by decide +kernel
theorem dX5_init_70 : decode cX5_init 70 = .ok (.putfield 39, 3) := by decide +kernel
theorem dX5_init_73 : decode cX5_init 73 = .ok (.aload_n 0, 1) := by decide +kernel
theorem dX5_init_74 : decode cX5_init 74 = .ok (.iconst 4, 1) := by decide +kernel
theorem dX5_init_75 : decode cX5_init 75 = .ok (.newarray .int, 2) := by decide +kernel
theorem dX5_init_77 : decode cX5_init 77 = .ok (.putfield 42, 3) := by decide +kernel
theorem dX5_init_80 : decode cX5_init 80 = .ok (.aload_n 0, 1) := by decide +kernel
theorem dX5_init_81 : decode cX5_init 81 = .ok (.bipush 61, 2) := by decide +kernel
theorem dX5_init_83 : decode cX5_init 83 = .ok (.newarray .int, 2) := by decide +kernel
theorem dX5_init_85 : decode cX5_init 85 = .ok (.putfield 45, 3) := by decide +kernel
theorem dX5_init_88 : decode cX5_init 88 = .ok (.iconst 0, 1) := by decide +kernel
theorem dX5_init_89 : decode cX5_init 89 = .ok (.istore_n 1, 1) := by decide +kernel
theorem dX5_init_90 : decode cX5_init 90 = .ok (.iload_n 1, 1) := by decide +kernel
theorem dX5_init_91 : decode cX5_init 91 = .ok (.bipush 8, 2) := by decide +kernel
theorem dX5_init_93 : decode cX5_init 93 = .ok (.if_icmp .ge 22, 3) := by decide +kernel
theorem dX5_init_96 : decode cX5_init 96 = .ok (.aload_n 0, 1) := by decide +kernel
theorem dX5_init_97 : decode cX5_init 97 = .ok (.getfield 28, 3) := by decide +kernel
theorem dX5_init_100 : decode cX5_init 100 = .ok (.iload_n 1, 1) := by decide +kernel
theorem dX5_init_101 : decode cX5_init 101 = .ok (.new 26, 3) := by decide +kernel
theorem dX5_init_104 : decode cX5_init 104 = .ok (.dup, 1) := by decide +kernel
theorem dX5_init_105 : decode cX5_init 105 = .ok (.invokespecial 48, 3) := by decide +kernel
theorem dX5_init_108 : decode cX5_init 108 = .ok (.aastore, 1) := by decide +kernel
theorem dX5_init_109 : decode cX5_init 109 = .ok (.iinc 1 1, 3) := by decide +kernel
theorem dX5_init_112 : decode cX5_init 112 = .ok (.goto (-22), 3) := by decide +kernel
theorem dX5_init_115 : decode cX5_init 115 = .ok (.return_, 1) := by decide +kernel
theorem dX5_border_0 : decode cX5_border 0 = .ok (.aload_n 0, 1) := by decide +kernel
theorem dX5_border_1 : decode cX5_border 1 = .ok (.iload_n 1, 1) := by decide +kernel
theorem dX5_border_2 : decode cX5_border 2 = .ok (.invokevirtual 49, 3) := by decide +kernel
theorem dX5_border_5 : decode cX5_border 5 = .ok (.istore_n 2, 1) := by decide +kernel
theorem dX5_border_6 : decode cX5_border 6 = .ok (.iload_n 2, 1) := by decide +kernel
theorem dX5_border_7 : decode cX5_border 7 = .ok (.ifCond .eq 5, 3) := by decide +kernel
theorem dX5_border_10 : decode cX5_border 10 = .ok (.iload_n 2, 1) := by decide +kernel
theorem dX5_border_11 : decode cX5_border 11 = .ok (.ireturn, 1) := by decide +kernel
theorem dX5_border_12 : decode cX5_border 12 = .ok (.aload_n 0, 1) := by decide +kernel
theorem dX5_border_13 : decode cX5_border 13 = .ok (.getfield 28, 3) := by decide +kernel
theorem dX5_border_16 : decode cX5_border 16 = .ok (.iload_n 1, 1) := by decide +kernel
theorem dX5_border_17 : decode cX5_border 17 = .ok (.aaload, 1) := by decide +kernel
theorem dX5_border_18 : decode cX5_border 18 = .ok (.astore_n 3, 1) := by decide +kernel
theorem dX5_border_19 : decode cX5_border 19 = .ok (.aload_n 3, 1) := by decide +kernel
theorem dX5_border_20 : decode cX5_border 20 = .ok (.invokestatic 53, 3) := by decide +kernel
theorem dX5_border_23 : decode cX5_border 23 = .ok (.istore 4, 2) := by decide +kernel
theorem dX5_border_25 : decode cX5_border 25 = .ok (.iload 4, 2) := by decide +kernel
theorem dX5_border_27 : decode cX5_border 27 = .ok (.ifCond .lt 10, 3) := by decide +kernel
theorem dX5_border_30 : decode cX5_border 30 = .ok (.sipush (-1000), 3) := by decide +kernel
theorem dX5_border_33 : decode cX5_border 33 = .ok (.iload 4, 2) := by decide +kernel
theorem dX5_border_35 : decode cX5_border 35 = .ok (.isub, 1) := by decide +kernel
theorem dX5_border_36 : decode cX5_border 36 = .ok (.ireturn, 1) := by decide +kernel
theorem dX5_border_37 : decode cX5_border 37 = .ok (.aload_n 0, 1) := by decide +kernel
theorem dX5_border_38 : decode cX5_border 38 = .ok (.getfield 16, 3) := by decide +kernel
theorem dX5_border_41 : decode cX5_border 41 = .ok (.aload_n 0, 1) := by decide +kernel
theorem dX5_border_42 : decode cX5_border 42 = .ok (.getfield 10, 3) := by decide +kernel
theorem dX5_border_45 : decode cX5_border 45 = .ok (.invokevirtual 59, 3) := by decide +kernel
theorem dX5_border_48 : decode cX5_border 48 = .ok (.iconst 0, 1) := by decide +kernel
theorem dX5_border_49 : decode cX5_border 49 = .ok (.istore 5, 2) := by decide +kernel
theorem dX5_border_51 : decode cX5_border 51 = .ok (.iconst 0, 1) := by decide +kernel
theorem dX5_border_52 : decode cX5_border 52 = .ok (.istore 6, 2) := by decide +kernel
theorem dX5_border_54 : decode cX5_border 54 = .ok (.iconst 0, 1) := by decide +kernel
theorem dX5_border_55 : decode cX5_border 55 = .ok (.istore 7, 2) := by decide +kernel
theorem dX5_border_57 : decode cX5_border 57 = .ok (.iload 7, 2) := by decide +kernel
theorem dX5_border_59 : decode cX5_border 59 = .ok (.aload_n 3, 1) := by decide +kernel
theorem dX5_border_60 : decode cX5_border 60 = .ok (.getfield 63, 3) := by decide +kernel
theorem dX5_border_63 : decode cX5_border 63 = .ok (.if_icmp .ge 52, 3) := by decide +kernel
theorem dX5_border_66 : decode cX5_border 66 = .ok (.aload_n 3, 1) := by decide +kernel
theorem dX5_border_67 : decode cX5_border 67 = .ok (.getfield 67, 3) := by decide +kernel
theorem dX5_border_70 : decode cX5_border 70 = .ok (.iload 7, 2) := by decide +kernel
theorem dX5_border_72 : decode cX5_border 72 = .ok (.iaload, 1) := by decide +kernel
theorem dX5_border_73 : decode cX5_border 73 = .ok (.bipush 59, 2) := by decide +kernel
theorem dX5_border_75 : decode cX5_border 75 = .ok (.if_icmp .ne 34, 3) := by decide +kernel
theorem dX5_border_78 : decode cX5_border 78 = .ok (.aload_n 3, 1) := by decide +kernel
theorem dX5_border_79 : decode cX5_border 79 = .ok (.iload 6, 2) := by decide +kernel
theorem dX5_border_81 : decode cX5_border 81 = .ok (.iload 7, 2) := by decide +kernel
theorem dX5_border_83 : decode cX5_border 83 = .ok (.aload_n 0, 1) := by decide +kernel
theorem dX5_border_84 : decode cX5_border 84 = .ok (.getfield 16, 3) := by decide +kernel
theorem dX5_border_87 : decode cX5_border 87 = .ok (.invokestatic 70, 3) := by decide +kernel
theorem dX5_border_90 : decode cX5_border 90 = .ok (.ifCond .ne 10, 3) := by decide +kernel
theorem dX5_border_93 : decode cX5_border 93 = .ok (.sipush (-2000), 3) := by decide +kernel
theorem dX5_border_96 : decode cX5_border 96 = .ok (.iload 6, 2) := by decide +kernel
theorem dX5_border_98 : decode cX5_border 98 = .ok (.isub, 1) := by decide +kernel
theorem dX5_border_99 : decode cX5_border 99 = .ok (.ireturn, 1) := by decide +kernel
theorem dX5_border_100 : decode cX5_border 100 = .ok (.iinc 5 1, 3) := by decide +kernel
theorem dX5_border_103 : decode cX5_border 103 = .ok (.iload 7, 2) := by decide +kernel
theorem dX5_border_105 : decode cX5_border 105 = .ok (.iconst 1, 1) := by decide +kernel
theorem dX5_border_106 : decode cX5_border 106 = .ok (.iadd, 1) := by decide +kernel
theorem dX5_border_107 : decode cX5_border 107 = .ok (.istore 6, 2) := by decide +kernel
theorem dX5_border_109 : decode cX5_border 109 = .ok (.iinc 7 1, 3) := by decide +kernel
theorem dX5_border_112 : decode cX5_border 112 = .ok (.goto (-55), 3) := by decide +kernel
theorem dX5_border_115 : decode cX5_border 115 = .ok (.aload_n 0, 1) := by decide +kernel
theorem dX5_border_116 : decode cX5_border 116 = .ok (.getfield 10, 3) := by decide +kernel
theorem dX5_border_119 : decode cX5_border 119 = .ok (.astore 7, 2) := by decide +kernel
theorem dX5_border_121 : decode cX5_border 121 = .ok (.aload_n 0, 1) := by decide +kernel
theorem dX5_border_122 : decode cX5_border 122 = .ok (.aload_n 0, 1) := by decide +kernel
theorem dX5_border_123 : decode cX5_border 123 = .ok (.getfield 16, 3) := by decide +kernel
theorem dX5_border_126 : decode cX5_border 126 = .ok (.putfield 10, 3) := by decide +kernel
theorem dX5_border_129 : decode cX5_border 129 = .ok (.aload_n 0, 1) := by decide +kernel
theorem dX5_border_130 : decode cX5_border 130 = .ok (.aload 7, 2) := by decide +kernel
theorem dX5_border_132 : decode cX5_border 132 = .ok (.putfield 16, 3) := by decide +kernel
theorem dX5_border_135 : decode cX5_border 135 = .ok (.iload 5, 2) := by decide +kernel
theorem dX5_border_137 : decode cX5_border 137 = .ok (.ireturn, 1) := by decide +kernel
theorem dX5_lane_0 : decode cX5_lane 0 = .ok (.aload_n 0, 1) := by decide +kernel
theorem dX5_lane_1 : decode cX5_lane 1 = .ok (.getfield 10, 3) := by decide +kernel
theorem dX5_lane_4 : decode cX5_lane 4 = .ok (.iload_n 1, 1) := by decide +kernel
theorem dX5_lane_5 : decode cX5_lane 5 = .ok (.invokevirtual 74, 3) := by decide +kernel
theorem dX5_lane_8 : decode cX5_lane 8 = .ok (.ifCond .ne 5, 3) := by decide +kernel
theorem dX5_lane_11 : decode cX5_lane 11 = .ok (.iconst (-1), 1) := by decide +kernel
theorem dX5_lane_12 : decode cX5_lane 12 = .ok (.ireturn, 1) := by decide +kernel
theorem dX5_lane_13 : decode cX5_lane 13 = .ok (.aload_n 0, 1) := by decide +kernel
theorem dX5_lane_14 : decode cX5_lane 14 = .ok (.getfield 10, 3) := by decide +kernel
theorem dX5_lane_17 : decode cX5_lane 17 = .ok (.getfield 78, 3) := by decide +kernel
theorem dX5_lane_20 : decode cX5_lane 20 = .ok (.iload_n 1, 1) := by decide +kernel
theorem dX5_lane_21 : decode cX5_lane 21 = .ok (.aaload, 1) := by decide +kernel
theorem dX5_lane_22 : decode cX5_lane 22 = .ok (.astore_n 3, 1) := by decide +kernel
theorem dX5_lane_23 : decode cX5_lane 23 = .ok (.iload_n 2, 1) := by decide +kernel
theorem dX5_lane_24 : decode cX5_lane 24 = .ok (.tableswitch 105 0 8 #[52, 57, 62, 67, 72, 77, 82, 87, 100], 52) := by decide +kernel
theorem dX5_lane_76 : decode cX5_lane 76 = .ok (.aload_n 3, 1) := by decide +kernel
theorem dX5_lane_77 : decode cX5_lane 77 = .ok (.getfield 82, 3) := by decide +kernel
theorem dX5_lane_80 : decode cX5_lane 80 = .ok (.ireturn, 1) := by decide +kernel
theorem dX5_lane_81 : decode cX5_lane 81 = .ok (.aload_n 3, 1) := by decide +kernel
theorem dX5_lane_82 : decode cX5_lane 82 = .ok (.getfield 87, 3) := by decide +kernel
theorem dX5_lane_85 : decode cX5_lane 85 = .ok (.ireturn, 1) := by decide +kernel
theorem dX5_lane_86 : decode cX5_lane 86 = .ok (.aload_n 3, 1) := by decide +kernel
theorem dX5_lane_87 : decode cX5_lane 87 = .ok (.getfield 90, 3) := by decide +kernel
theorem dX5_lane_90 : decode cX5_lane 90 = .ok (.ireturn, 1) := by decide +kernel
theorem dX5_lane_91 : decode cX5_lane 91 = .ok (.aload_n 3, 1) := by decide +kernel
theorem dX5_lane_92 : decode cX5_lane 92 = .ok (.getfield 93, 3) := by decide +kernel
theorem dX5_lane_95 : decode cX5_lane 95 = .ok (.ireturn, 1) := by decide +kernel
theorem dX5_lane_96 : decode cX5_lane 96 = .ok (.aload_n 3, 1) := by decide +kernel
theorem dX5_lane_97 : decode cX5_lane 97 = .ok (.invokevirtual 96, 3) := by decide +kernel
theorem dX5_lane_100 : decode cX5_lane 100 = .ok (.ireturn, 1) := by decide +kernel
theorem dX5_lane_101 : decode cX5_lane 101 = .ok (.aload_n 3, 1) := by decide +kernel
theorem dX5_lane_102 : decode cX5_lane 102 = .ok (.invokevirtual 100, 3) := by decide +kernel
theorem dX5_lane_105 : decode cX5_lane 105 = .ok (.ireturn, 1) := by decide +kernel
theorem dX5_lane_106 : decode cX5_lane 106 = .ok (.aload_n 3, 1) := by decide +kernel
theorem dX5_lane_107 : decode cX5_lane 107 = .ok (.invokevirtual 103, 3) := by decide +kernel
theorem dX5_lane_110 : decode cX5_lane 110 = .ok (.ireturn, 1) := by decide +kernel
theorem dX5_lane_111 : decode cX5_lane 111 = .ok (.aload_n 3, 1) := by decide +kernel
theorem dX5_lane_112 : decode cX5_lane 112 = .ok (.invokevirtual 106, 3) := by decide +kernel
theorem dX5_lane_115 : decode cX5_lane 115 = .ok (.ifCond .eq 7, 3) := by decide +kernel
theorem dX5_lane_118 : decode cX5_lane 118 = .ok (.iconst 1, 1) := by decide +kernel
theorem dX5_lane_119 : decode cX5_lane 119 = .ok (.goto 4, 3) := by decide +kernel
theorem dX5_lane_122 : decode cX5_lane 122 = .ok (.iconst 0, 1) := by decide +kernel
theorem dX5_lane_123 : decode cX5_lane 123 = .ok (.ireturn, 1) := by decide +kernel
theorem dX5_lane_124 : decode cX5_lane 124 = .ok (.aload_n 3, 1) := by decide +kernel
theorem dX5_lane_125 : decode cX5_lane 125 = .ok (.getfield 110, 3) := by decide +kernel
theorem dX5_lane_128 : decode cX5_lane 128 = .ok (.ireturn, 1) := by decide +kernel
theorem dX5_lane_129 : decode cX5_lane 129 = .ok (.iconst (-1), 1) := by decide +kernel
theorem dX5_lane_130 : decode cX5_lane 130 = .ok (.ireturn, 1) := by decide +kernel
theorem dX5_car_0 : decode cX5_car 0 = .ok (.aload_n 0, 1) := by decide +kernel
theorem dX5_car_1 : decode cX5_car 1 = .ok (.getfield 10, 3) := by decide +kernel
theorem dX5_car_4 : decode cX5_car 4 = .ok (.iload_n 1, 1) := by decide +kernel
theorem dX5_car_5 : decode cX5_car 5 = .ok (.iload_n 2, 1) := by decide +kernel
theorem dX5_car_6 : decode cX5_car 6 = .ok (.invokevirtual 113, 3) := by decide +kernel
theorem dX5_car_9 : decode cX5_car 9 = .ok (.ifCond .eq 20, 3) := by decide +kernel
theorem dX5_car_12 : decode cX5_car 12 = .ok (.aload_n 0, 1) := by decide +kernel
theorem dX5_car_13 : decode cX5_car 13 = .ok (.getfield 10, 3) := by decide +kernel
theorem dX5_car_16 : decode cX5_car 16 = .ok (.getfield 78, 3) := by decide +kernel
theorem dX5_car_19 : decode cX5_car 19 = .ok (.iload_n 1, 1) := by decide +kernel
theorem dX5_car_20 : decode cX5_car 20 = .ok (.aaload, 1) := by decide +kernel
theorem dX5_car_21 : decode cX5_car 21 = .ok (.getfield 117, 3) := by decide +kernel
theorem dX5_car_24 : decode cX5_car 24 = .ok (.iload_n 2, 1) := by decide +kernel
theorem dX5_car_25 : decode cX5_car 25 = .ok (.iaload, 1) := by decide +kernel
theorem dX5_car_26 : decode cX5_car 26 = .ok (.goto 4, 3) := by decide +kernel
theorem dX5_car_29 : decode cX5_car 29 = .ok (.iconst (-1), 1) := by decide +kernel
theorem dX5_car_30 : decode cX5_car 30 = .ok (.ireturn, 1) := by decide +kernel
theorem dX5_takes_0 : decode cX5_takes 0 = .ok (.aload_n 0, 1) := by decide +kernel
theorem dX5_takes_1 : decode cX5_takes 1 = .ok (.getfield 10, 3) := by decide +kernel
theorem dX5_takes_4 : decode cX5_takes 4 = .ok (.iload_n 1, 1) := by decide +kernel
theorem dX5_takes_5 : decode cX5_takes 5 = .ok (.invokevirtual 74, 3) := by decide +kernel
theorem dX5_takes_8 : decode cX5_takes 8 = .ok (.ifCond .eq 26, 3) := by decide +kernel
theorem dX5_takes_11 : decode cX5_takes 11 = .ok (.iload_n 2, 1) := by decide +kernel
theorem dX5_takes_12 : decode cX5_takes 12 = .ok (.invokestatic 120, 3) := by decide +kernel
theorem dX5_takes_15 : decode cX5_takes 15 = .ok (.ifCond .eq 19, 3) := by decide +kernel
theorem dX5_takes_18 : decode cX5_takes 18 = .ok (.aload_n 0, 1) := by decide +kernel
theorem dX5_takes_19 : decode cX5_takes 19 = .ok (.getfield 10, 3) := by decide +kernel
theorem dX5_takes_22 : decode cX5_takes 22 = .ok (.getfield 78, 3) := by decide +kernel
theorem dX5_takes_25 : decode cX5_takes 25 = .ok (.iload_n 1, 1) := by decide +kernel
theorem dX5_takes_26 : decode cX5_takes 26 = .ok (.aaload, 1) := by decide +kernel
theorem dX5_takes_27 : decode cX5_takes 27 = .ok (.iload_n 2, 1) := by decide +kernel
theorem dX5_takes_28 : decode cX5_takes 28 = .ok (.invokevirtual 123, 3) := by decide +kernel
theorem dX5_takes_31 : decode cX5_takes 31 = .ok (.goto 4, 3) := by decide +kernel
theorem dX5_takes_34 : decode cX5_takes 34 = .ok (.iconst (-1), 1) := by decide +kernel
theorem dX5_takes_35 : decode cX5_takes 35 = .ok (.ireturn, 1) := by decide +kernel
theorem dX5_comes_0 : decode cX5_comes 0 = .ok (.aload_n 0, 1) := by decide +kernel
theorem dX5_comes_1 : decode cX5_comes 1 = .ok (.getfield 10, 3) := by decide +kernel
theorem dX5_comes_4 : decode cX5_comes 4 = .ok (.iload_n 1, 1) := by decide +kernel
theorem dX5_comes_5 : decode cX5_comes 5 = .ok (.invokevirtual 74, 3) := by decide +kernel
theorem dX5_comes_8 : decode cX5_comes 8 = .ok (.ifCond .eq 10, 3) := by decide +kernel
theorem dX5_comes_11 : decode cX5_comes 11 = .ok (.iload_n 2, 1) := by decide +kernel
theorem dX5_comes_12 : decode cX5_comes 12 = .ok (.invokestatic 120, 3) := by decide +kernel
theorem dX5_comes_15 : decode cX5_comes 15 = .ok (.ifCond .ne 5, 3) := by decide +kernel
theorem dX5_comes_18 : decode cX5_comes 18 = .ok (.iconst (-1), 1) := by decide +kernel
theorem dX5_comes_19 : decode cX5_comes 19 = .ok (.ireturn, 1) := by decide +kernel
theorem dX5_comes_20 : decode cX5_comes 20 = .ok (.aload_n 0, 1) := by decide +kernel
theorem dX5_comes_21 : decode cX5_comes 21 = .ok (.getfield 10, 3) := by decide +kernel
theorem dX5_comes_24 : decode cX5_comes 24 = .ok (.getfield 78, 3) := by decide +kernel
theorem dX5_comes_27 : decode cX5_comes 27 = .ok (.iload_n 1, 1) := by decide +kernel
theorem dX5_comes_28 : decode cX5_comes 28 = .ok (.aaload, 1) := by decide +kernel
theorem dX5_comes_29 : decode cX5_comes 29 = .ok (.astore_n 3, 1) := by decide +kernel
theorem dX5_comes_30 : decode cX5_comes 30 = .ok (.aload_n 3, 1) := by decide +kernel
theorem dX5_comes_31 : decode cX5_comes 31 = .ok (.invokevirtual 106, 3) := by decide +kernel
theorem dX5_comes_34 : decode cX5_comes 34 = .ok (.ifCond .ne 6, 3) := by decide +kernel
theorem dX5_comes_37 : decode cX5_comes 37 = .ok (.bipush (-3), 2) := by decide +kernel
theorem dX5_comes_39 : decode cX5_comes 39 = .ok (.ireturn, 1) := by decide +kernel
theorem dX5_comes_40 : decode cX5_comes 40 = .ok (.aload_n 3, 1) := by decide +kernel
theorem dX5_comes_41 : decode cX5_comes 41 = .ok (.invokevirtual 126, 3) := by decide +kernel
theorem dX5_comes_44 : decode cX5_comes 44 = .ok (.ifCond .ne 6, 3) := by decide +kernel
theorem dX5_comes_47 : decode cX5_comes 47 = .ok (.bipush (-2), 2) := by decide +kernel
theorem dX5_comes_49 : decode cX5_comes 49 = .ok (.ireturn, 1) := by decide +kernel
theorem dX5_comes_50 : decode cX5_comes 50 = .ok (.aload_n 3, 1) := by decide +kernel
theorem dX5_comes_51 : decode cX5_comes 51 = .ok (.iload_n 2, 1) := by decide +kernel
theorem dX5_comes_52 : decode cX5_comes 52 = .ok (.invokevirtual 129, 3) := by decide +kernel
theorem dX5_comes_55 : decode cX5_comes 55 = .ok (.istore 4, 2) := by decide +kernel
theorem dX5_comes_57 : decode cX5_comes 57 = .ok (.aload_n 3, 1) := by decide +kernel
theorem dX5_comes_58 : decode cX5_comes 58 = .ok (.iload_n 2, 1) := by decide +kernel
theorem dX5_comes_59 : decode cX5_comes 59 = .ok (.invokevirtual 132, 3) := by decide +kernel
theorem dX5_comes_62 : decode cX5_comes 62 = .ok (.iload 4, 2) := by decide +kernel
theorem dX5_comes_64 : decode cX5_comes 64 = .ok (.ireturn, 1) := by decide +kernel
theorem dX5_minutes_0 : decode cX5_minutes 0 = .ok (.iload_n 1, 1) := by decide +kernel
theorem dX5_minutes_1 : decode cX5_minutes 1 = .ok (.iconst 1, 1) := by decide +kernel
theorem dX5_minutes_2 : decode cX5_minutes 2 = .ok (.if_icmp .lt 9, 3) := by decide +kernel
theorem dX5_minutes_5 : decode cX5_minutes 5 = .ok (.iload_n 1, 1) := by decide +kernel
theorem dX5_minutes_6 : decode cX5_minutes 6 = .ok (.bipush 60, 2) := by decide +kernel
theorem dX5_minutes_8 : decode cX5_minutes 8 = .ok (.if_icmp .le 7, 3) := by decide +kernel
theorem dX5_minutes_11 : decode cX5_minutes 11 = .ok (.iconst (-1), 1) := by decide +kernel
theorem dX5_minutes_12 : decode cX5_minutes 12 = .ok (.goto 11, 3) := by decide +kernel
theorem dX5_minutes_15 : decode cX5_minutes 15 = .ok (.aload_n 0, 1) := by decide +kernel
theorem dX5_minutes_16 : decode cX5_minutes 16 = .ok (.getfield 10, 3) := by decide +kernel
theorem dX5_minutes_19 : decode cX5_minutes 19 = .ok (.iload_n 1, 1) := by decide +kernel
theorem dX5_minutes_20 : decode cX5_minutes 20 = .ok (.invokevirtual 136, 3) := by decide +kernel
theorem dX5_minutes_23 : decode cX5_minutes 23 = .ok (.ireturn, 1) := by decide +kernel
theorem dX5_which_0 : decode cX5_which 0 = .ok (.iload_n 1, 1) := by decide +kernel
theorem dX5_which_1 : decode cX5_which 1 = .ok (.invokestatic 120, 3) := by decide +kernel
theorem dX5_which_4 : decode cX5_which 4 = .ok (.ifCond .eq 13, 3) := by decide +kernel
theorem dX5_which_7 : decode cX5_which 7 = .ok (.aload_n 0, 1) := by decide +kernel
theorem dX5_which_8 : decode cX5_which 8 = .ok (.getfield 10, 3) := by decide +kernel
theorem dX5_which_11 : decode cX5_which 11 = .ok (.invokevirtual 139, 3) := by decide +kernel
theorem dX5_which_14 : decode cX5_which 14 = .ok (.goto 4, 3) := by decide +kernel
theorem dX5_which_17 : decode cX5_which 17 = .ok (.iconst (-1), 1) := by decide +kernel
theorem dX5_which_18 : decode cX5_which 18 = .ok (.ireturn, 1) := by decide +kernel
theorem dX5_best_0 : decode cX5_best 0 = .ok (.iload_n 1, 1) := by decide +kernel
theorem dX5_best_1 : decode cX5_best 1 = .ok (.invokestatic 120, 3) := by decide +kernel
theorem dX5_best_4 : decode cX5_best 4 = .ok (.ifCond .eq 14, 3) := by decide +kernel
theorem dX5_best_7 : decode cX5_best 7 = .ok (.aload_n 0, 1) := by decide +kernel
theorem dX5_best_8 : decode cX5_best 8 = .ok (.getfield 10, 3) := by decide +kernel
theorem dX5_best_11 : decode cX5_best 11 = .ok (.iload_n 1, 1) := by decide +kernel
theorem dX5_best_12 : decode cX5_best 12 = .ok (.invokevirtual 142, 3) := by decide +kernel
theorem dX5_best_15 : decode cX5_best 15 = .ok (.goto 4, 3) := by decide +kernel
theorem dX5_best_18 : decode cX5_best 18 = .ok (.iconst (-1), 1) := by decide +kernel
theorem dX5_best_19 : decode cX5_best 19 = .ok (.ireturn, 1) := by decide +kernel
theorem dX5_regret_0 : decode cX5_regret 0 = .ok (.iload_n 1, 1) := by decide +kernel
theorem dX5_regret_1 : decode cX5_regret 1 = .ok (.invokestatic 120, 3) := by decide +kernel
theorem dX5_regret_4 : decode cX5_regret 4 = .ok (.ifCond .eq 12, 3) := by decide +kernel
theorem dX5_regret_7 : decode cX5_regret 7 = .ok (.aload_n 0, 1) := by decide +kernel
theorem dX5_regret_8 : decode cX5_regret 8 = .ok (.iload_n 1, 1) := by decide +kernel
theorem dX5_regret_9 : decode cX5_regret 9 = .ok (.iconst 1, 1) := by decide +kernel
theorem dX5_regret_10 : decode cX5_regret 10 = .ok (.invokevirtual 145, 3) := by decide +kernel
theorem dX5_regret_13 : decode cX5_regret 13 = .ok (.goto 4, 3) := by decide +kernel
theorem dX5_regret_16 : decode cX5_regret 16 = .ok (.iconst (-1), 1) := by decide +kernel
theorem dX5_regret_17 : decode cX5_regret 17 = .ok (.ireturn, 1) := by decide +kernel
theorem dX5_time_0 : decode cX5_time 0 = .ok (.aload_n 0, 1) := by decide +kernel
theorem dX5_time_1 : decode cX5_time 1 = .ok (.getfield 10, 3) := by decide +kernel
theorem dX5_time_4 : decode cX5_time 4 = .ok (.iload_n 1, 1) := by decide +kernel
theorem dX5_time_5 : decode cX5_time 5 = .ok (.iload_n 2, 1) := by decide +kernel
theorem dX5_time_6 : decode cX5_time 6 = .ok (.invokevirtual 113, 3) := by decide +kernel
theorem dX5_time_9 : decode cX5_time 9 = .ok (.ifCond .eq 19, 3) := by decide +kernel
theorem dX5_time_12 : decode cX5_time 12 = .ok (.aload_n 0, 1) := by decide +kernel
theorem dX5_time_13 : decode cX5_time 13 = .ok (.getfield 10, 3) := by decide +kernel
theorem dX5_time_16 : decode cX5_time 16 = .ok (.getfield 78, 3) := by decide +kernel
theorem dX5_time_19 : decode cX5_time 19 = .ok (.iload_n 1, 1) := by decide +kernel
theorem dX5_time_20 : decode cX5_time 20 = .ok (.aaload, 1) := by decide +kernel
theorem dX5_time_21 : decode cX5_time 21 = .ok (.iload_n 2, 1) := by decide +kernel
theorem dX5_time_22 : decode cX5_time 22 = .ok (.invokevirtual 149, 3) := by decide +kernel
theorem dX5_time_25 : decode cX5_time 25 = .ok (.goto 4, 3) := by decide +kernel
theorem dX5_time_28 : decode cX5_time 28 = .ok (.iconst (-1), 1) := by decide +kernel
theorem dX5_time_29 : decode cX5_time 29 = .ok (.ireturn, 1) := by decide +kernel
theorem dX5_all_0 : decode cX5_all 0 = .ok (.aload_n 0, 1) := by decide +kernel
theorem dX5_all_1 : decode cX5_all 1 = .ok (.getfield 10, 3) := by decide +kernel
theorem dX5_all_4 : decode cX5_all 4 = .ok (.invokevirtual 152, 3) := by decide +kernel
theorem dX5_all_7 : decode cX5_all 7 = .ok (.ireturn, 1) := by decide +kernel
theorem dX5_change_0 : decode cX5_change 0 = .ok (.iload 4, 2) := by decide +kernel
theorem dX5_change_2 : decode cX5_change 2 = .ok (.ifCond .lt 9, 3) := by decide +kernel
theorem dX5_change_5 : decode cX5_change 5 = .ok (.iload 4, 2) := by decide +kernel
theorem dX5_change_7 : decode cX5_change 7 = .ok (.iconst 1, 1) := by decide +kernel
theorem dX5_change_8 : decode cX5_change 8 = .ok (.if_icmp .le 6, 3) := by decide +kernel
theorem dX5_change_11 : decode cX5_change 11 = .ok (.ldc 155, 2) := by decide +kernel
theorem dX5_change_13 : decode cX5_change 13 = .ok (.ireturn, 1) := by decide +kernel
theorem dX5_change_14 : decode cX5_change 14 = .ok (.aload_n 0, 1) := by decide +kernel
theorem dX5_change_15 : decode cX5_change 15 = .ok (.iload_n 1, 1) := by decide +kernel
theorem dX5_change_16 : decode cX5_change 16 = .ok (.iload_n 2, 1) := by decide +kernel
theorem dX5_change_17 : decode cX5_change 17 = .ok (.iload_n 3, 1) := by decide +kernel
theorem dX5_change_18 : decode cX5_change 18 = .ok (.invokevirtual 156, 3) := by decide +kernel
theorem dX5_change_21 : decode cX5_change 21 = .ok (.istore 5, 2) := by decide +kernel
theorem dX5_change_23 : decode cX5_change 23 = .ok (.iload 5, 2) := by decide +kernel
theorem dX5_change_25 : decode cX5_change 25 = .ok (.ifCond .eq 6, 3) := by decide +kernel
theorem dX5_change_28 : decode cX5_change 28 = .ok (.iload 5, 2) := by decide +kernel
theorem dX5_change_30 : decode cX5_change 30 = .ok (.ireturn, 1) := by decide +kernel
theorem dX5_change_31 : decode cX5_change 31 = .ok (.iload 4, 2) := by decide +kernel
theorem dX5_change_33 : decode cX5_change 33 = .ok (.ifCond .ne 16, 3) := by decide +kernel
theorem dX5_change_36 : decode cX5_change 36 = .ok (.aload_n 0, 1) := by decide +kernel
theorem dX5_change_37 : decode cX5_change 37 = .ok (.getfield 10, 3) := by decide +kernel
theorem dX5_change_40 : decode cX5_change 40 = .ok (.iload_n 1, 1) := by decide +kernel
theorem dX5_change_41 : decode cX5_change 41 = .ok (.iload_n 2, 1) := by decide +kernel
theorem dX5_change_42 : decode cX5_change 42 = .ok (.iload_n 3, 1) := by decide +kernel
theorem dX5_change_43 : decode cX5_change 43 = .ok (.invokevirtual 160, 3) := by decide +kernel
theorem dX5_change_46 : decode cX5_change 46 = .ok (.goto 10, 3) := by decide +kernel
theorem dX5_change_49 : decode cX5_change 49 = .ok (.aload_n 0, 1) := by decide +kernel
theorem dX5_change_50 : decode cX5_change 50 = .ok (.iload_n 1, 1) := by decide +kernel
theorem dX5_change_51 : decode cX5_change 51 = .ok (.iload_n 2, 1) := by decide +kernel
theorem dX5_change_52 : decode cX5_change 52 = .ok (.iload_n 3, 1) := by decide +kernel
theorem dX5_change_53 : decode cX5_change 53 = .ok (.invokevirtual 163, 3) := by decide +kernel
theorem dX5_change_56 : decode cX5_change 56 = .ok (.ireturn, 1) := by decide +kernel
theorem dX5_changes_0 : decode cX5_changes 0 = .ok (.aload_n 0, 1) := by decide +kernel
theorem dX5_changes_1 : decode cX5_changes 1 = .ok (.iload_n 1, 1) := by decide +kernel
theorem dX5_changes_2 : decode cX5_changes 2 = .ok (.iload_n 2, 1) := by decide +kernel
theorem dX5_changes_3 : decode cX5_changes 3 = .ok (.iload_n 3, 1) := by decide +kernel
theorem dX5_changes_4 : decode cX5_changes 4 = .ok (.invokevirtual 156, 3) := by decide +kernel
theorem dX5_changes_7 : decode cX5_changes 7 = .ok (.istore 4, 2) := by decide +kernel
theorem dX5_changes_9 : decode cX5_changes 9 = .ok (.iload 4, 2) := by decide +kernel
theorem dX5_changes_11 : decode cX5_changes 11 = .ok (.ifCond .eq 6, 3) := by decide +kernel
theorem dX5_changes_14 : decode cX5_changes 14 = .ok (.iload 4, 2) := by decide +kernel
theorem dX5_changes_16 : decode cX5_changes 16 = .ok (.ireturn, 1) := by decide +kernel
theorem dX5_changes_17 : decode cX5_changes 17 = .ok (.aload_n 0, 1) := by decide +kernel
theorem dX5_changes_18 : decode cX5_changes 18 = .ok (.getfield 10, 3) := by decide +kernel
theorem dX5_changes_21 : decode cX5_changes 21 = .ok (.invokevirtual 152, 3) := by decide +kernel
theorem dX5_changes_24 : decode cX5_changes 24 = .ok (.istore 5, 2) := by decide +kernel
theorem dX5_changes_26 : decode cX5_changes 26 = .ok (.aload_n 0, 1) := by decide +kernel
theorem dX5_changes_27 : decode cX5_changes 27 = .ok (.getfield 10, 3) := by decide +kernel
theorem dX5_changes_30 : decode cX5_changes 30 = .ok (.iload_n 1, 1) := by decide +kernel
theorem dX5_changes_31 : decode cX5_changes 31 = .ok (.iload_n 2, 1) := by decide +kernel
theorem dX5_changes_32 : decode cX5_changes 32 = .ok (.iload_n 3, 1) := by decide +kernel
theorem dX5_changes_33 : decode cX5_changes 33 = .ok (.invokevirtual 166, 3) := by decide +kernel
theorem dX5_changes_36 : decode cX5_changes 36 = .ok (.iload 5, 2) := by decide +kernel
theorem dX5_changes_38 : decode cX5_changes 38 = .ok (.aload_n 0, 1) := by decide +kernel
theorem dX5_changes_39 : decode cX5_changes 39 = .ok (.getfield 10, 3) := by decide +kernel
theorem dX5_changes_42 : decode cX5_changes 42 = .ok (.invokevirtual 152, 3) := by decide +kernel
theorem dX5_changes_45 : decode cX5_changes 45 = .ok (.isub, 1) := by decide +kernel
theorem dX5_changes_46 : decode cX5_changes 46 = .ok (.ireturn, 1) := by decide +kernel
theorem dX5_paysMost_0 : decode cX5_paysMost 0 = .ok (.iload_n 1, 1) := by decide +kernel
theorem dX5_paysMost_1 : decode cX5_paysMost 1 = .ok (.ifCond .lt 9, 3) := by decide +kernel
theorem dX5_paysMost_4 : decode cX5_paysMost 4 = .ok (.iload_n 1, 1) := by decide +kernel
theorem dX5_paysMost_5 : decode cX5_paysMost 5 = .ok (.bipush 99, 2) := by decide +kernel
theorem dX5_paysMost_7 : decode cX5_paysMost 7 = .ok (.if_icmp .le 7, 3) := by decide +kernel
theorem dX5_paysMost_10 : decode cX5_paysMost 10 = .ok (.iconst (-1), 1) := by decide +kernel
theorem dX5_paysMost_11 : decode cX5_paysMost 11 = .ok (.goto 11, 3) := by decide +kernel
theorem dX5_paysMost_14 : decode cX5_paysMost 14 = .ok (.aload_n 0, 1) := by decide +kernel
theorem dX5_paysMost_15 : decode cX5_paysMost 15 = .ok (.getfield 10, 3) := by decide +kernel
theorem dX5_paysMost_18 : decode cX5_paysMost 18 = .ok (.iload_n 1, 1) := by decide +kernel
theorem dX5_paysMost_19 : decode cX5_paysMost 19 = .ok (.invokevirtual 170, 3) := by decide +kernel
theorem dX5_paysMost_22 : decode cX5_paysMost 22 = .ok (.ireturn, 1) := by decide +kernel
theorem dX5_rests_0 : decode cX5_rests 0 = .ok (.iload_n 1, 1) := by decide +kernel
theorem dX5_rests_1 : decode cX5_rests 1 = .ok (.ifCond .lt 18, 3) := by decide +kernel
theorem dX5_rests_4 : decode cX5_rests 4 = .ok (.iload_n 1, 1) := by decide +kernel
theorem dX5_rests_5 : decode cX5_rests 5 = .ok (.bipush 99, 2) := by decide +kernel
theorem dX5_rests_7 : decode cX5_rests 7 = .ok (.if_icmp .gt 12, 3) := by decide +kernel
theorem dX5_rests_10 : decode cX5_rests 10 = .ok (.iload_n 2, 1) := by decide +kernel
theorem dX5_rests_11 : decode cX5_rests 11 = .ok (.ifCond .lt 8, 3) := by decide +kernel
theorem dX5_rests_14 : decode cX5_rests 14 = .ok (.iload_n 2, 1) := by decide +kernel
theorem dX5_rests_15 : decode cX5_rests 15 = .ok (.iconst 1, 1) := by decide +kernel
theorem dX5_rests_16 : decode cX5_rests 16 = .ok (.if_icmp .le 5, 3) := by decide +kernel
theorem dX5_rests_19 : decode cX5_rests 19 = .ok (.iconst (-1), 1) := by decide +kernel
theorem dX5_rests_20 : decode cX5_rests 20 = .ok (.ireturn, 1) := by decide +kernel
theorem dX5_rests_21 : decode cX5_rests 21 = .ok (.aload_n 0, 1) := by decide +kernel
theorem dX5_rests_22 : decode cX5_rests 22 = .ok (.getfield 16, 3) := by decide +kernel
theorem dX5_rests_25 : decode cX5_rests 25 = .ok (.aload_n 0, 1) := by decide +kernel
theorem dX5_rests_26 : decode cX5_rests 26 = .ok (.getfield 10, 3) := by decide +kernel
theorem dX5_rests_29 : decode cX5_rests 29 = .ok (.invokevirtual 59, 3) := by decide +kernel
theorem dX5_rests_32 : decode cX5_rests 32 = .ok (.iconst 0, 1) := by decide +kernel
theorem dX5_rests_33 : decode cX5_rests 33 = .ok (.istore_n 3, 1) := by decide +kernel
theorem dX5_rests_34 : decode cX5_rests 34 = .ok (.aload_n 0, 1) := by decide +kernel
theorem dX5_rests_35 : decode cX5_rests 35 = .ok (.getfield 16, 3) := by decide +kernel
theorem dX5_rests_38 : decode cX5_rests 38 = .ok (.iload_n 1, 1) := by decide +kernel
theorem dX5_rests_39 : decode cX5_rests 39 = .ok (.invokevirtual 170, 3) := by decide +kernel
theorem dX5_rests_42 : decode cX5_rests 42 = .ok (.istore 4, 2) := by decide +kernel
theorem dX5_rests_44 : decode cX5_rests 44 = .ok (.iload_n 3, 1) := by decide +kernel
theorem dX5_rests_45 : decode cX5_rests 45 = .ok (.bipush 40, 2) := by decide +kernel
theorem dX5_rests_47 : decode cX5_rests 47 = .ok (.if_icmp .ge 49, 3) := by decide +kernel
theorem dX5_rests_50 : decode cX5_rests 50 = .ok (.iload 4, 2) := by decide +kernel
theorem dX5_rests_52 : decode cX5_rests 52 = .ok (.ifCond .lt 44, 3) := by decide +kernel
theorem dX5_rests_55 : decode cX5_rests 55 = .ok (.aload_n 0, 1) := by decide +kernel
theorem dX5_rests_56 : decode cX5_rests 56 = .ok (.getfield 16, 3) := by decide +kernel
theorem dX5_rests_59 : decode cX5_rests 59 = .ok (.iload 4, 2) := by decide +kernel
theorem dX5_rests_61 : decode cX5_rests 61 = .ok (.bipush 100, 2) := by decide +kernel
theorem dX5_rests_63 : decode cX5_rests 63 = .ok (.idiv, 1) := by decide +kernel
theorem dX5_rests_64 : decode cX5_rests 64 = .ok (.iload 4, 2) := by decide +kernel
theorem dX5_rests_66 : decode cX5_rests 66 = .ok (.bipush 10, 2) := by decide +kernel
theorem dX5_rests_68 : decode cX5_rests 68 = .ok (.idiv, 1) := by decide +kernel
theorem dX5_rests_69 : decode cX5_rests 69 = .ok (.bipush 10, 2) := by decide +kernel
theorem dX5_rests_71 : decode cX5_rests 71 = .ok (.irem, 1) := by decide +kernel
theorem dX5_rests_72 : decode cX5_rests 72 = .ok (.iload 4, 2) := by decide +kernel
theorem dX5_rests_74 : decode cX5_rests 74 = .ok (.bipush 10, 2) := by decide +kernel
theorem dX5_rests_76 : decode cX5_rests 76 = .ok (.irem, 1) := by decide +kernel
theorem dX5_rests_77 : decode cX5_rests 77 = .ok (.invokevirtual 166, 3) := by decide +kernel
theorem dX5_rests_80 : decode cX5_rests 80 = .ok (.iinc 3 1, 3) := by decide +kernel
theorem dX5_rests_83 : decode cX5_rests 83 = .ok (.aload_n 0, 1) := by decide +kernel
theorem dX5_rests_84 : decode cX5_rests 84 = .ok (.getfield 16, 3) := by decide +kernel
theorem dX5_rests_87 : decode cX5_rests 87 = .ok (.iload_n 1, 1) := by decide +kernel
theorem dX5_rests_88 : decode cX5_rests 88 = .ok (.invokevirtual 170, 3) := by decide +kernel
theorem dX5_rests_91 : decode cX5_rests 91 = .ok (.istore 4, 2) := by decide +kernel
theorem dX5_rests_93 : decode cX5_rests 93 = .ok (.goto (-49), 3) := by decide +kernel
theorem dX5_rests_96 : decode cX5_rests 96 = .ok (.iload_n 2, 1) := by decide +kernel
theorem dX5_rests_97 : decode cX5_rests 97 = .ok (.ifCond .ne 7, 3) := by decide +kernel
theorem dX5_rests_100 : decode cX5_rests 100 = .ok (.iload_n 3, 1) := by decide +kernel
theorem dX5_rests_101 : decode cX5_rests 101 = .ok (.goto 10, 3) := by decide +kernel
theorem dX5_rests_104 : decode cX5_rests 104 = .ok (.aload_n 0, 1) := by decide +kernel
theorem dX5_rests_105 : decode cX5_rests 105 = .ok (.getfield 16, 3) := by decide +kernel
theorem dX5_rests_108 : decode cX5_rests 108 = .ok (.invokevirtual 152, 3) := by decide +kernel
theorem dX5_rests_111 : decode cX5_rests 111 = .ok (.ireturn, 1) := by decide +kernel
theorem dX5_least_0 : decode cX5_least 0 = .ok (.aload_n 0, 1) := by decide +kernel
theorem dX5_least_1 : decode cX5_least 1 = .ok (.invokevirtual 173, 3) := by decide +kernel
theorem dX5_least_4 : decode cX5_least 4 = .ok (.istore_n 1, 1) := by decide +kernel
theorem dX5_least_5 : decode cX5_least 5 = .ok (.aload_n 0, 1) := by decide +kernel
theorem dX5_least_6 : decode cX5_least 6 = .ok (.invokevirtual 176, 3) := by decide +kernel
theorem dX5_least_9 : decode cX5_least 9 = .ok (.istore_n 2, 1) := by decide +kernel
theorem dX5_least_10 : decode cX5_least 10 = .ok (.iload_n 1, 1) := by decide +kernel
theorem dX5_least_11 : decode cX5_least 11 = .ok (.bipush 6, 2) := by decide +kernel
theorem dX5_least_13 : decode cX5_least 13 = .ok (.if_icmp .gt 16, 3) := by decide +kernel
theorem dX5_least_16 : decode cX5_least 16 = .ok (.iload_n 2, 1) := by decide +kernel
theorem dX5_least_17 : decode cX5_least 17 = .ok (.iconst 3, 1) := by decide +kernel
theorem dX5_least_18 : decode cX5_least 18 = .ok (.if_icmp .gt 11, 3) := by decide +kernel
theorem dX5_least_21 : decode cX5_least 21 = .ok (.iload_n 1, 1) := by decide +kernel
theorem dX5_least_22 : decode cX5_least 22 = .ok (.ifCond .le 10, 3) := by decide +kernel
theorem dX5_least_25 : decode cX5_least 25 = .ok (.iload_n 2, 1) := by decide +kernel
theorem dX5_least_26 : decode cX5_least 26 = .ok (.ifCond .ne 6, 3) := by decide +kernel
theorem dX5_least_29 : decode cX5_least 29 = .ok (.bipush (-4), 2) := by decide +kernel
theorem dX5_least_31 : decode cX5_least 31 = .ok (.ireturn, 1) := by decide +kernel
theorem dX5_least_32 : decode cX5_least 32 = .ok (.iload_n 2, 1) := by decide +kernel
theorem dX5_least_33 : decode cX5_least 33 = .ok (.iload_n 1, 1) := by decide +kernel
theorem dX5_least_34 : decode cX5_least 34 = .ok (.invokestatic 179, 3) := by decide +kernel
theorem dX5_least_37 : decode cX5_least 37 = .ok (.istore_n 3, 1) := by decide +kernel
theorem dX5_least_38 : decode cX5_least 38 = .ok (.ldc 184, 2) := by decide +kernel
theorem dX5_least_40 : decode cX5_least 40 = .ok (.istore 4, 2) := by decide +kernel
theorem dX5_least_42 : decode cX5_least 42 = .ok (.iconst 0, 1) := by decide +kernel
theorem dX5_least_43 : decode cX5_least 43 = .ok (.istore 5, 2) := by decide +kernel
theorem dX5_least_45 : decode cX5_least 45 = .ok (.iload 5, 2) := by decide +kernel
theorem dX5_least_47 : decode cX5_least 47 = .ok (.iload_n 3, 1) := by decide +kernel
theorem dX5_least_48 : decode cX5_least 48 = .ok (.if_icmp .ge 24, 3) := by decide +kernel
theorem dX5_least_51 : decode cX5_least 51 = .ok (.iload 4, 2) := by decide +kernel
theorem dX5_least_53 : decode cX5_least 53 = .ok (.aload_n 0, 1) := by decide +kernel
theorem dX5_least_54 : decode cX5_least 54 = .ok (.iload 5, 2) := by decide +kernel
theorem dX5_least_56 : decode cX5_least 56 = .ok (.iload_n 1, 1) := by decide +kernel
theorem dX5_least_57 : decode cX5_least 57 = .ok (.iload_n 2, 1) := by decide +kernel
theorem dX5_least_58 : decode cX5_least 58 = .ok (.invokevirtual 185, 3) := by decide +kernel
theorem dX5_least_61 : decode cX5_least 61 = .ok (.invokestatic 188, 3) := by decide +kernel
theorem dX5_least_64 : decode cX5_least 64 = .ok (.istore 4, 2) := by decide +kernel
theorem dX5_least_66 : decode cX5_least 66 = .ok (.iinc 5 1, 3) := by decide +kernel
theorem dX5_least_69 : decode cX5_least 69 = .ok (.goto (-24), 3) := by decide +kernel
theorem dX5_least_72 : decode cX5_least 72 = .ok (.iload 4, 2) := by decide +kernel
theorem dX5_least_74 : decode cX5_least 74 = .ok (.ireturn, 1) := by decide +kernel
theorem dX5_oneLine_0 : decode cX5_oneLine 0 = .ok (.aload_n 0, 1) := by decide +kernel
theorem dX5_oneLine_1 : decode cX5_oneLine 1 = .ok (.getfield 10, 3) := by decide +kernel
theorem dX5_oneLine_4 : decode cX5_oneLine 4 = .ok (.getfield 193, 3) := by decide +kernel
theorem dX5_oneLine_7 : decode cX5_oneLine 7 = .ok (.ifCond .ne 6, 3) := by decide +kernel
theorem dX5_oneLine_10 : decode cX5_oneLine 10 = .ok (.bipush (-4), 2) := by decide +kernel
theorem dX5_oneLine_12 : decode cX5_oneLine 12 = .ok (.ireturn, 1) := by decide +kernel
theorem dX5_oneLine_13 : decode cX5_oneLine 13 = .ok (.aload_n 0, 1) := by decide +kernel
theorem dX5_oneLine_14 : decode cX5_oneLine 14 = .ok (.invokevirtual 173, 3) := by decide +kernel
theorem dX5_oneLine_17 : decode cX5_oneLine 17 = .ok (.istore_n 1, 1) := by decide +kernel
theorem dX5_oneLine_18 : decode cX5_oneLine 18 = .ok (.aload_n 0, 1) := by decide +kernel
theorem dX5_oneLine_19 : decode cX5_oneLine 19 = .ok (.invokevirtual 196, 3) := by decide +kernel
theorem dX5_oneLine_22 : decode cX5_oneLine 22 = .ok (.istore_n 2, 1) := by decide +kernel
theorem dX5_oneLine_23 : decode cX5_oneLine 23 = .ok (.iconst 0, 1) := by decide +kernel
theorem dX5_oneLine_24 : decode cX5_oneLine 24 = .ok (.istore_n 3, 1) := by decide +kernel
theorem dX5_oneLine_25 : decode cX5_oneLine 25 = .ok (.iload_n 3, 1) := by decide +kernel
theorem dX5_oneLine_26 : decode cX5_oneLine 26 = .ok (.iload_n 1, 1) := by decide +kernel
theorem dX5_oneLine_27 : decode cX5_oneLine 27 = .ok (.if_icmp .ge 26, 3) := by decide +kernel
theorem dX5_oneLine_30 : decode cX5_oneLine 30 = .ok (.iload_n 2, 1) := by decide +kernel
theorem dX5_oneLine_31 : decode cX5_oneLine 31 = .ok (.aload_n 0, 1) := by decide +kernel
theorem dX5_oneLine_32 : decode cX5_oneLine 32 = .ok (.aload_n 0, 1) := by decide +kernel
theorem dX5_oneLine_33 : decode cX5_oneLine 33 = .ok (.invokevirtual 199, 3) := by decide +kernel
theorem dX5_oneLine_36 : decode cX5_oneLine 36 = .ok (.aload_n 0, 1) := by decide +kernel
theorem dX5_oneLine_37 : decode cX5_oneLine 37 = .ok (.getfield 36, 3) := by decide +kernel
theorem dX5_oneLine_40 : decode cX5_oneLine 40 = .ok (.iload_n 3, 1) := by decide +kernel
theorem dX5_oneLine_41 : decode cX5_oneLine 41 = .ok (.iaload, 1) := by decide +kernel
theorem dX5_oneLine_42 : decode cX5_oneLine 42 = .ok (.invokevirtual 202, 3) := by decide +kernel
theorem dX5_oneLine_45 : decode cX5_oneLine 45 = .ok (.iadd, 1) := by decide +kernel
theorem dX5_oneLine_46 : decode cX5_oneLine 46 = .ok (.istore_n 2, 1) := by decide +kernel
theorem dX5_oneLine_47 : decode cX5_oneLine 47 = .ok (.iinc 3 1, 3) := by decide +kernel
theorem dX5_oneLine_50 : decode cX5_oneLine 50 = .ok (.goto (-25), 3) := by decide +kernel
theorem dX5_oneLine_53 : decode cX5_oneLine 53 = .ok (.iload_n 2, 1) := by decide +kernel
theorem dX5_oneLine_54 : decode cX5_oneLine 54 = .ok (.ireturn, 1) := by decide +kernel
theorem dX5_beside_0 : decode cX5_beside 0 = .ok (.aload_n 0, 1) := by decide +kernel
theorem dX5_beside_1 : decode cX5_beside 1 = .ok (.getfield 10, 3) := by decide +kernel
theorem dX5_beside_4 : decode cX5_beside 4 = .ok (.iload_n 1, 1) := by decide +kernel
theorem dX5_beside_5 : decode cX5_beside 5 = .ok (.invokevirtual 74, 3) := by decide +kernel
theorem dX5_beside_8 : decode cX5_beside 8 = .ok (.ifCond .eq 30, 3) := by decide +kernel
theorem dX5_beside_11 : decode cX5_beside 11 = .ok (.aload_n 0, 1) := by decide +kernel
theorem dX5_beside_12 : decode cX5_beside 12 = .ok (.getfield 10, 3) := by decide +kernel
theorem dX5_beside_15 : decode cX5_beside 15 = .ok (.iload_n 2, 1) := by decide +kernel
theorem dX5_beside_16 : decode cX5_beside 16 = .ok (.invokevirtual 74, 3) := by decide +kernel
theorem dX5_beside_19 : decode cX5_beside 19 = .ok (.ifCond .eq 19, 3) := by decide +kernel
theorem dX5_beside_22 : decode cX5_beside 22 = .ok (.iload_n 1, 1) := by decide +kernel
theorem dX5_beside_23 : decode cX5_beside 23 = .ok (.iload_n 2, 1) := by decide +kernel
theorem dX5_beside_24 : decode cX5_beside 24 = .ok (.if_icmp .eq 14, 3) := by decide +kernel
theorem dX5_beside_27 : decode cX5_beside 27 = .ok (.iload_n 3, 1) := by decide +kernel
theorem dX5_beside_28 : decode cX5_beside 28 = .ok (.iconst 1, 1) := by decide +kernel
theorem dX5_beside_29 : decode cX5_beside 29 = .ok (.if_icmp .lt 9, 3) := by decide +kernel
theorem dX5_beside_32 : decode cX5_beside 32 = .ok (.iload_n 3, 1) := by decide +kernel
theorem dX5_beside_33 : decode cX5_beside 33 = .ok (.bipush 60, 2) := by decide +kernel
theorem dX5_beside_35 : decode cX5_beside 35 = .ok (.if_icmp .le 6, 3) := by decide +kernel
theorem dX5_beside_38 : decode cX5_beside 38 = .ok (.ldc 155, 2) := by decide +kernel
theorem dX5_beside_40 : decode cX5_beside 40 = .ok (.ireturn, 1) := by decide +kernel
theorem dX5_beside_41 : decode cX5_beside 41 = .ok (.aload_n 0, 1) := by decide +kernel
theorem dX5_beside_42 : decode cX5_beside 42 = .ok (.getfield 16, 3) := by decide +kernel
theorem dX5_beside_45 : decode cX5_beside 45 = .ok (.aload_n 0, 1) := by decide +kernel
theorem dX5_beside_46 : decode cX5_beside 46 = .ok (.getfield 10, 3) := by decide +kernel
theorem dX5_beside_49 : decode cX5_beside 49 = .ok (.invokevirtual 59, 3) := by decide +kernel
theorem dX5_beside_52 : decode cX5_beside 52 = .ok (.iconst 0, 1) := by decide +kernel
theorem dX5_beside_53 : decode cX5_beside 53 = .ok (.istore 4, 2) := by decide +kernel
theorem dX5_beside_55 : decode cX5_beside 55 = .ok (.iconst 0, 1) := by decide +kernel
theorem dX5_beside_56 : decode cX5_beside 56 = .ok (.istore 5, 2) := by decide +kernel
theorem dX5_beside_58 : decode cX5_beside 58 = .ok (.iload 5, 2) := by decide +kernel
theorem dX5_beside_60 : decode cX5_beside 60 = .ok (.iload_n 3, 1) := by decide +kernel
theorem dX5_beside_61 : decode cX5_beside 61 = .ok (.if_icmp .ge 66, 3) := by decide +kernel
theorem dX5_beside_64 : decode cX5_beside 64 = .ok (.aload_n 0, 1) := by decide +kernel
theorem dX5_beside_65 : decode cX5_beside 65 = .ok (.getfield 16, 3) := by decide +kernel
theorem dX5_beside_68 : decode cX5_beside 68 = .ok (.getfield 78, 3) := by decide +kernel
theorem dX5_beside_71 : decode cX5_beside 71 = .ok (.iload_n 1, 1) := by decide +kernel
theorem dX5_beside_72 : decode cX5_beside 72 = .ok (.aaload, 1) := by decide +kernel
theorem dX5_beside_73 : decode cX5_beside 73 = .ok (.invokevirtual 205, 3) := by decide +kernel
theorem dX5_beside_76 : decode cX5_beside 76 = .ok (.istore 6, 2) := by decide +kernel
theorem dX5_beside_78 : decode cX5_beside 78 = .ok (.aload_n 0, 1) := by decide +kernel
theorem dX5_beside_79 : decode cX5_beside 79 = .ok (.getfield 16, 3) := by decide +kernel
theorem dX5_beside_82 : decode cX5_beside 82 = .ok (.getfield 78, 3) := by decide +kernel
theorem dX5_beside_85 : decode cX5_beside 85 = .ok (.iload_n 2, 1) := by decide +kernel
theorem dX5_beside_86 : decode cX5_beside 86 = .ok (.aaload, 1) := by decide +kernel
theorem dX5_beside_87 : decode cX5_beside 87 = .ok (.invokevirtual 205, 3) := by decide +kernel
theorem dX5_beside_90 : decode cX5_beside 90 = .ok (.istore 7, 2) := by decide +kernel
theorem dX5_beside_92 : decode cX5_beside 92 = .ok (.iload 7, 2) := by decide +kernel
theorem dX5_beside_94 : decode cX5_beside 94 = .ok (.ifCond .eq 14, 3) := by decide +kernel
theorem dX5_beside_97 : decode cX5_beside 97 = .ok (.iload 6, 2) := by decide +kernel
theorem dX5_beside_99 : decode cX5_beside 99 = .ok (.ifCond .ne 9, 3) := by decide +kernel
theorem dX5_beside_102 : decode cX5_beside 102 = .ok (.iinc 4 1, 3) := by decide +kernel
theorem dX5_beside_105 : decode cX5_beside 105 = .ok (.goto 16, 3) := by decide +kernel
theorem dX5_beside_108 : decode cX5_beside 108 = .ok (.iload 6, 2) := by decide +kernel
theorem dX5_beside_110 : decode cX5_beside 110 = .ok (.ifCond .eq 11, 3) := by decide +kernel
theorem dX5_beside_113 : decode cX5_beside 113 = .ok (.iload 7, 2) := by decide +kernel
theorem dX5_beside_115 : decode cX5_beside 115 = .ok (.ifCond .ne 6, 3) := by decide +kernel
theorem dX5_beside_118 : decode cX5_beside 118 = .ok (.iinc 4 (-1), 3) := by decide +kernel
theorem dX5_beside_121 : decode cX5_beside 121 = .ok (.iinc 5 1, 3) := by decide +kernel
theorem dX5_beside_124 : decode cX5_beside 124 = .ok (.goto (-66), 3) := by decide +kernel
theorem dX5_beside_127 : decode cX5_beside 127 = .ok (.iload 4, 2) := by decide +kernel
theorem dX5_beside_129 : decode cX5_beside 129 = .ok (.ireturn, 1) := by decide +kernel
theorem dX5_comers_0 : decode cX5_comers 0 = .ok (.iload_n 2, 1) := by decide +kernel
theorem dX5_comers_1 : decode cX5_comers 1 = .ok (.ifCond .lt 29, 3) := by decide +kernel
theorem dX5_comers_4 : decode cX5_comers 4 = .ok (.iload_n 2, 1) := by decide +kernel
theorem dX5_comers_5 : decode cX5_comers 5 = .ok (.bipush 9, 2) := by decide +kernel
theorem dX5_comers_7 : decode cX5_comers 7 = .ok (.if_icmp .gt 23, 3) := by decide +kernel
theorem dX5_comers_10 : decode cX5_comers 10 = .ok (.iload_n 3, 1) := by decide +kernel
theorem dX5_comers_11 : decode cX5_comers 11 = .ok (.ifCond .lt 19, 3) := by decide +kernel
theorem dX5_comers_14 : decode cX5_comers 14 = .ok (.iload_n 3, 1) := by decide +kernel
theorem dX5_comers_15 : decode cX5_comers 15 = .ok (.iconst 2, 1) := by decide +kernel
theorem dX5_comers_16 : decode cX5_comers 16 = .ok (.if_icmp .gt 14, 3) := by decide +kernel
theorem dX5_comers_19 : decode cX5_comers 19 = .ok (.iload 4, 2) := by decide +kernel
theorem dX5_comers_21 : decode cX5_comers 21 = .ok (.ifCond .lt 9, 3) := by decide +kernel
theorem dX5_comers_24 : decode cX5_comers 24 = .ok (.iload 4, 2) := by decide +kernel
theorem dX5_comers_26 : decode cX5_comers 26 = .ok (.iconst 1, 1) := by decide +kernel
theorem dX5_comers_27 : decode cX5_comers 27 = .ok (.if_icmp .le 5, 3) := by decide +kernel
theorem dX5_comers_30 : decode cX5_comers 30 = .ok (.iconst (-1), 1) := by decide +kernel
theorem dX5_comers_31 : decode cX5_comers 31 = .ok (.ireturn, 1) := by decide +kernel
theorem dX5_comers_32 : decode cX5_comers 32 = .ok (.aload_n 0, 1) := by decide +kernel
theorem dX5_comers_33 : decode cX5_comers 33 = .ok (.iload_n 1, 1) := by decide +kernel
theorem dX5_comers_34 : decode cX5_comers 34 = .ok (.invokevirtual 208, 3) := by decide +kernel
theorem dX5_comers_37 : decode cX5_comers 37 = .ok (.istore 5, 2) := by decide +kernel
theorem dX5_comers_39 : decode cX5_comers 39 = .ok (.iload 5, 2) := by decide +kernel
theorem dX5_comers_41 : decode cX5_comers 41 = .ok (.ifCond .eq 6, 3) := by decide +kernel
theorem dX5_comers_44 : decode cX5_comers 44 = .ok (.iload 5, 2) := by decide +kernel
theorem dX5_comers_46 : decode cX5_comers 46 = .ok (.ireturn, 1) := by decide +kernel
theorem dX5_comers_47 : decode cX5_comers 47 = .ok (.aload_n 0, 1) := by decide +kernel
theorem dX5_comers_48 : decode cX5_comers 48 = .ok (.getfield 28, 3) := by decide +kernel
theorem dX5_comers_51 : decode cX5_comers 51 = .ok (.iload_n 1, 1) := by decide +kernel
theorem dX5_comers_52 : decode cX5_comers 52 = .ok (.aaload, 1) := by decide +kernel
theorem dX5_comers_53 : decode cX5_comers 53 = .ok (.astore 6, 2) := by decide +kernel
theorem dX5_comers_55 : decode cX5_comers 55 = .ok (.aload_n 0, 1) := by decide +kernel
theorem dX5_comers_56 : decode cX5_comers 56 = .ok (.getfield 16, 3) := by decide +kernel
theorem dX5_comers_59 : decode cX5_comers 59 = .ok (.aload_n 0, 1) := by decide +kernel
theorem dX5_comers_60 : decode cX5_comers 60 = .ok (.getfield 10, 3) := by decide +kernel
theorem dX5_comers_63 : decode cX5_comers 63 = .ok (.invokevirtual 59, 3) := by decide +kernel
theorem dX5_comers_66 : decode cX5_comers 66 = .ok (.iconst 0, 1) := by decide +kernel
theorem dX5_comers_67 : decode cX5_comers 67 = .ok (.istore 7, 2) := by decide +kernel
theorem dX5_comers_69 : decode cX5_comers 69 = .ok (.iconst 0, 1) := by decide +kernel
theorem dX5_comers_70 : decode cX5_comers 70 = .ok (.istore 8, 2) := by decide +kernel
theorem dX5_comers_72 : decode cX5_comers 72 = .ok (.iconst 0, 1) := by decide +kernel
theorem dX5_comers_73 : decode cX5_comers 73 = .ok (.istore 9, 2) := by decide +kernel
theorem dX5_comers_75 : decode cX5_comers 75 = .ok (.iload 9, 2) := by decide +kernel
theorem dX5_comers_77 : decode cX5_comers 77 = .ok (.aload 6, 2) := by decide +kernel
theorem dX5_comers_79 : decode cX5_comers 79 = .ok (.getfield 63, 3) := by decide +kernel
theorem dX5_comers_82 : decode cX5_comers 82 = .ok (.if_icmp .ge 95, 3) := by decide +kernel
theorem dX5_comers_85 : decode cX5_comers 85 = .ok (.iload 9, 2) := by decide +kernel
theorem dX5_comers_87 : decode cX5_comers 87 = .ok (.ifCond .le 12, 3) := by decide +kernel
theorem dX5_comers_90 : decode cX5_comers 90 = .ok (.aload_n 0, 1) := by decide +kernel
theorem dX5_comers_91 : decode cX5_comers 91 = .ok (.getfield 16, 3) := by decide +kernel
theorem dX5_comers_94 : decode cX5_comers 94 = .ok (.iload_n 2, 1) := by decide +kernel
theorem dX5_comers_95 : decode cX5_comers 95 = .ok (.invokevirtual 136, 3) := by decide +kernel
theorem dX5_comers_98 : decode cX5_comers 98 = .ok (.pop, 1) := by decide +kernel
theorem dX5_comers_99 : decode cX5_comers 99 = .ok (.aload_n 0, 1) := by decide +kernel
theorem dX5_comers_100 : decode cX5_comers 100 = .ok (.iload_n 3, 1) := by decide +kernel
theorem dX5_comers_101 : decode cX5_comers 101 = .ok (.iload 9, 2) := by decide +kernel
theorem dX5_comers_103 : decode cX5_comers 103 = .ok (.aload 6, 2) := by decide +kernel
theorem dX5_comers_105 : decode cX5_comers 105 = .ok (.getfield 67, 3) := by decide +kernel
theorem dX5_comers_108 : decode cX5_comers 108 = .ok (.iload 9, 2) := by decide +kernel
theorem dX5_comers_110 : decode cX5_comers 110 = .ok (.iaload, 1) := by decide +kernel
theorem dX5_comers_111 : decode cX5_comers 111 = .ok (.invokevirtual 211, 3) := by decide +kernel
theorem dX5_comers_114 : decode cX5_comers 114 = .ok (.istore 10, 2) := by decide +kernel
theorem dX5_comers_116 : decode cX5_comers 116 = .ok (.iload 10, 2) := by decide +kernel
theorem dX5_comers_118 : decode cX5_comers 118 = .ok (.ifCond .lt 53, 3) := by decide +kernel
theorem dX5_comers_121 : decode cX5_comers 121 = .ok (.iload 8, 2) := by decide +kernel
theorem dX5_comers_123 : decode cX5_comers 123 = .ok (.aload_n 0, 1) := by decide +kernel
theorem dX5_comers_124 : decode cX5_comers 124 = .ok (.getfield 16, 3) := by decide +kernel
theorem dX5_comers_127 : decode cX5_comers 127 = .ok (.getfield 78, 3) := by decide +kernel
theorem dX5_comers_130 : decode cX5_comers 130 = .ok (.iload 10, 2) := by decide +kernel
theorem dX5_comers_132 : decode cX5_comers 132 = .ok (.aaload, 1) := by decide +kernel
theorem dX5_comers_133 : decode cX5_comers 133 = .ok (.aload 6, 2) := by decide +kernel
theorem dX5_comers_135 : decode cX5_comers 135 = .ok (.getfield 67, 3) := by decide +kernel
theorem dX5_comers_138 : decode cX5_comers 138 = .ok (.iload 9, 2) := by decide +kernel
theorem dX5_comers_140 : decode cX5_comers 140 = .ok (.iaload, 1) := by decide +kernel
theorem dX5_comers_141 : decode cX5_comers 141 = .ok (.invokevirtual 129, 3) := by decide +kernel
theorem dX5_comers_144 : decode cX5_comers 144 = .ok (.iadd, 1) := by decide +kernel
theorem dX5_comers_145 : decode cX5_comers 145 = .ok (.istore 8, 2) := by decide +kernel
theorem dX5_comers_147 : decode cX5_comers 147 = .ok (.aload_n 0, 1) := by decide +kernel
theorem dX5_comers_148 : decode cX5_comers 148 = .ok (.getfield 16, 3) := by decide +kernel
theorem dX5_comers_151 : decode cX5_comers 151 = .ok (.getfield 78, 3) := by decide +kernel
theorem dX5_comers_154 : decode cX5_comers 154 = .ok (.iload 10, 2) := by decide +kernel
theorem dX5_comers_156 : decode cX5_comers 156 = .ok (.aaload, 1) := by decide +kernel
theorem dX5_comers_157 : decode cX5_comers 157 = .ok (.aload 6, 2) := by decide +kernel
theorem dX5_comers_159 : decode cX5_comers 159 = .ok (.getfield 67, 3) := by decide +kernel
theorem dX5_comers_162 : decode cX5_comers 162 = .ok (.iload 9, 2) := by decide +kernel
theorem dX5_comers_164 : decode cX5_comers 164 = .ok (.iaload, 1) := by decide +kernel
theorem dX5_comers_165 : decode cX5_comers 165 = .ok (.invokevirtual 132, 3) := by decide +kernel
theorem dX5_comers_168 : decode cX5_comers 168 = .ok (.iinc 7 1, 3) := by decide +kernel
theorem dX5_comers_171 : decode cX5_comers 171 = .ok (.iinc 9 1, 3) := by decide +kernel
theorem dX5_comers_174 : decode cX5_comers 174 = .ok (.goto (-99), 3) := by decide +kernel
theorem dX5_comers_177 : decode cX5_comers 177 = .ok (.iload 4, 2) := by decide +kernel
theorem dX5_comers_179 : decode cX5_comers 179 = .ok (.ifCond .ne 8, 3) := by decide +kernel
theorem dX5_comers_182 : decode cX5_comers 182 = .ok (.iload 7, 2) := by decide +kernel
theorem dX5_comers_184 : decode cX5_comers 184 = .ok (.goto 5, 3) := by decide +kernel
theorem dX5_comers_187 : decode cX5_comers 187 = .ok (.iload 8, 2) := by decide +kernel
theorem dX5_comers_189 : decode cX5_comers 189 = .ok (.ireturn, 1) := by decide +kernel
theorem dX5_opens_0 : decode cX5_opens 0 = .ok (.iload_n 2, 1) := by decide +kernel
theorem dX5_opens_1 : decode cX5_opens 1 = .ok (.ifCond .lt 19, 3) := by decide +kernel
theorem dX5_opens_4 : decode cX5_opens 4 = .ok (.iload_n 2, 1) := by decide +kernel
theorem dX5_opens_5 : decode cX5_opens 5 = .ok (.bipush 9, 2) := by decide +kernel
theorem dX5_opens_7 : decode cX5_opens 7 = .ok (.if_icmp .gt 13, 3) := by decide +kernel
theorem dX5_opens_10 : decode cX5_opens 10 = .ok (.iload_n 3, 1) := by decide +kernel
theorem dX5_opens_11 : decode cX5_opens 11 = .ok (.ifCond .lt 9, 3) := by decide +kernel
theorem dX5_opens_14 : decode cX5_opens 14 = .ok (.iload_n 3, 1) := by decide +kernel
theorem dX5_opens_15 : decode cX5_opens 15 = .ok (.bipush 99, 2) := by decide +kernel
theorem dX5_opens_17 : decode cX5_opens 17 = .ok (.if_icmp .le 5, 3) := by decide +kernel
theorem dX5_opens_20 : decode cX5_opens 20 = .ok (.iconst (-1), 1) := by decide +kernel
theorem dX5_opens_21 : decode cX5_opens 21 = .ok (.ireturn, 1) := by decide +kernel
theorem dX5_opens_22 : decode cX5_opens 22 = .ok (.aload_n 0, 1) := by decide +kernel
theorem dX5_opens_23 : decode cX5_opens 23 = .ok (.iload_n 1, 1) := by decide +kernel
theorem dX5_opens_24 : decode cX5_opens 24 = .ok (.invokevirtual 208, 3) := by decide +kernel
theorem dX5_opens_27 : decode cX5_opens 27 = .ok (.istore 4, 2) := by decide +kernel
theorem dX5_opens_29 : decode cX5_opens 29 = .ok (.iload 4, 2) := by decide +kernel
theorem dX5_opens_31 : decode cX5_opens 31 = .ok (.ifCond .eq 6, 3) := by decide +kernel
theorem dX5_opens_34 : decode cX5_opens 34 = .ok (.iload 4, 2) := by decide +kernel
theorem dX5_opens_36 : decode cX5_opens 36 = .ok (.ireturn, 1) := by decide +kernel
theorem dX5_opens_37 : decode cX5_opens 37 = .ok (.aload_n 0, 1) := by decide +kernel
theorem dX5_opens_38 : decode cX5_opens 38 = .ok (.getfield 28, 3) := by decide +kernel
theorem dX5_opens_41 : decode cX5_opens 41 = .ok (.iload_n 1, 1) := by decide +kernel
theorem dX5_opens_42 : decode cX5_opens 42 = .ok (.aaload, 1) := by decide +kernel
theorem dX5_opens_43 : decode cX5_opens 43 = .ok (.astore 5, 2) := by decide +kernel
theorem dX5_opens_45 : decode cX5_opens 45 = .ok (.aload_n 0, 1) := by decide +kernel
