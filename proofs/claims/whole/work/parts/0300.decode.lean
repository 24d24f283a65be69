theorem dX0_firstBadByte_0 : decode cX0_firstBadByte 0 = .ok (.iconst 0, 1) := by decide +kernel
theorem dX0_firstBadByte_1 : decode cX0_firstBadByte 1 = .ok (.istore_n 1, 1) := by decide +kernel
theorem dX0_firstBadByte_2 : decode cX0_firstBadByte 2 = .ok (.iconst 0, 1) := by decide +kernel
theorem dX0_firstBadByte_3 : decode cX0_firstBadByte 3 = .ok (.istore_n 2, 1) := by decide +kernel
theorem dX0_firstBadByte_4 : decode cX0_firstBadByte 4 = .ok (.iload_n 2, 1) := by decide +kernel
theorem dX0_firstBadByte_5 : decode cX0_firstBadByte 5 = .ok (.aload_n 0, 1) := by decide +kernel
theorem dX0_firstBadByte_6 : decode cX0_firstBadByte 6 = .ok (.getfield 11, 3) := by decide +kernel
theorem dX0_firstBadByte_9 : decode cX0_firstBadByte 9 = .ok (.if_icmp .ge 28, 3) := by decide +kernel
theorem dX0_firstBadByte_12 : decode cX0_firstBadByte 12 = .ok (.iload_n 1, 1) := by decide +kernel
theorem dX0_firstBadByte_13 : decode cX0_firstBadByte 13 = .ok (.aload_n 0, 1) := by decide +kernel
theorem dX0_firstBadByte_14 : decode cX0_firstBadByte 14 = .ok (.getfield 17, 3) := by decide +kernel
theorem dX0_firstBadByte_17 : decode cX0_firstBadByte 17 = .ok (.iload_n 2, 1) := by decide +kernel
theorem dX0_firstBadByte_18 : decode cX0_firstBadByte 18 = .ok (.iaload, 1) := by decide +kernel
theorem dX0_firstBadByte_19 : decode cX0_firstBadByte 19 = .ok (.invokestatic 21, 3) := by decide +kernel
theorem dX0_firstBadByte_22 : decode cX0_firstBadByte 22 = .ok (.istore_n 1, 1) := by decide +kernel
theorem dX0_firstBadByte_23 : decode cX0_firstBadByte 23 = .ok (.iload_n 1, 1) := by decide +kernel
theorem dX0_firstBadByte_24 : decode cX0_firstBadByte 24 = .ok (.bipush 9, 2) := by decide +kernel
theorem dX0_firstBadByte_26 : decode cX0_firstBadByte 26 = .ok (.if_icmp .ne 5, 3) := by decide +kernel
theorem dX0_firstBadByte_29 : decode cX0_firstBadByte 29 = .ok (.iload_n 2, 1) := by decide +kernel
theorem dX0_firstBadByte_30 : decode cX0_firstBadByte 30 = .ok (.ireturn, 1) := by decide +kernel
theorem dX0_firstBadByte_31 : decode cX0_firstBadByte 31 = .ok (.iinc 2 1, 3) := by decide +kernel
theorem dX0_firstBadByte_34 : decode cX0_firstBadByte 34 = .ok (.goto (-30), 3) := by decide +kernel
theorem dX0_firstBadByte_37 : decode cX0_firstBadByte 37 = .ok (.iload_n 1, 1) := by decide +kernel
theorem dX0_firstBadByte_38 : decode cX0_firstBadByte 38 = .ok (.ifCond .ne 14, 3) := by decide +kernel
theorem dX0_firstBadByte_41 : decode cX0_firstBadByte 41 = .ok (.aload_n 0, 1) := by decide +kernel
theorem dX0_firstBadByte_42 : decode cX0_firstBadByte 42 = .ok (.getfield 11, 3) := by decide +kernel
theorem dX0_firstBadByte_45 : decode cX0_firstBadByte 45 = .ok (.ifCond .le 7, 3) := by decide +kernel
theorem dX0_firstBadByte_48 : decode cX0_firstBadByte 48 = .ok (.iconst (-1), 1) := by decide +kernel
theorem dX0_firstBadByte_49 : decode cX0_firstBadByte 49 = .ok (.goto 7, 3) := by decide +kernel
theorem dX0_firstBadByte_52 : decode cX0_firstBadByte 52 = .ok (.aload_n 0, 1) := by decide +kernel
theorem dX0_firstBadByte_53 : decode cX0_firstBadByte 53 = .ok (.getfield 11, 3) := by decide +kernel
theorem dX0_firstBadByte_56 : decode cX0_firstBadByte 56 = .ok (.ireturn, 1) := by decide +kernel
theorem dX0_next_0 : decode cX0_next 0 = .ok (.iload_n 0, 1) := by decide +kernel
theorem dX0_next_1 : decode cX0_next 1 = .ok (.ifCond .ne 8, 3) := by decide +kernel
theorem dX0_next_4 : decode cX0_next 4 = .ok (.iload_n 1, 1) := by decide +kernel
theorem dX0_next_5 : decode cX0_next 5 = .ok (.invokestatic 25, 3) := by decide +kernel
theorem dX0_next_8 : decode cX0_next 8 = .ok (.ireturn, 1) := by decide +kernel
theorem dX0_next_9 : decode cX0_next 9 = .ok (.iload_n 1, 1) := by decide +kernel
theorem dX0_next_10 : decode cX0_next 10 = .ok (.bipush 59, 2) := by decide +kernel
theorem dX0_next_12 : decode cX0_next 12 = .ok (.if_icmp .ne 37, 3) := by decide +kernel
theorem dX0_next_15 : decode cX0_next 15 = .ok (.iload_n 0, 1) := by decide +kernel
theorem dX0_next_16 : decode cX0_next 16 = .ok (.iconst 3, 1) := by decide +kernel
theorem dX0_next_17 : decode cX0_next 17 = .ok (.if_icmp .eq 15, 3) := by decide +kernel
theorem dX0_next_20 : decode cX0_next 20 = .ok (.iload_n 0, 1) := by decide +kernel
theorem dX0_next_21 : decode cX0_next 21 = .ok (.bipush 7, 2) := by decide +kernel
theorem dX0_next_23 : decode cX0_next 23 = .ok (.if_icmp .eq 9, 3) := by decide +kernel
theorem dX0_next_26 : decode cX0_next 26 = .ok (.iload_n 0, 1) := by decide +kernel
theorem dX0_next_27 : decode cX0_next 27 = .ok (.bipush 8, 2) := by decide +kernel
theorem dX0_next_29 : decode cX0_next 29 = .ok (.if_icmp .ne 7, 3) := by decide +kernel
theorem dX0_next_32 : decode cX0_next 32 = .ok (.iconst 1, 1) := by decide +kernel
theorem dX0_next_33 : decode cX0_next 33 = .ok (.goto 4, 3) := by decide +kernel
theorem dX0_next_36 : decode cX0_next 36 = .ok (.iconst 0, 1) := by decide +kernel
theorem dX0_next_37 : decode cX0_next 37 = .ok (.istore_n 2, 1) := by decide +kernel
theorem dX0_next_38 : decode cX0_next 38 = .ok (.iload_n 2, 1) := by decide +kernel
theorem dX0_next_39 : decode cX0_next 39 = .ok (.ifCond .eq 7, 3) := by decide +kernel
theorem dX0_next_42 : decode cX0_next 42 = .ok (.iconst 0, 1) := by decide +kernel
theorem dX0_next_43 : decode cX0_next 43 = .ok (.goto 5, 3) := by decide +kernel
theorem dX0_next_46 : decode cX0_next 46 = .ok (.bipush 9, 2) := by decide +kernel
theorem dX0_next_48 : decode cX0_next 48 = .ok (.ireturn, 1) := by decide +kernel
theorem dX0_next_49 : decode cX0_next 49 = .ok (.iload_n 1, 1) := by decide +kernel
theorem dX0_next_50 : decode cX0_next 50 = .ok (.bipush 48, 2) := by decide +kernel
theorem dX0_next_52 : decode cX0_next 52 = .ok (.if_icmp .lt 17, 3) := by decide +kernel
theorem dX0_next_55 : decode cX0_next 55 = .ok (.iload_n 1, 1) := by decide +kernel
theorem dX0_next_56 : decode cX0_next 56 = .ok (.bipush 57, 2) := by decide +kernel
theorem dX0_next_58 : decode cX0_next 58 = .ok (.if_icmp .gt 11, 3) := by decide +kernel
theorem dX0_next_61 : decode cX0_next 61 = .ok (.iload_n 0, 1) := by decide +kernel
theorem dX0_next_62 : decode cX0_next 62 = .ok (.iload_n 1, 1) := by decide +kernel
theorem dX0_next_63 : decode cX0_next 63 = .ok (.invokestatic 29, 3) := by decide +kernel
theorem dX0_next_66 : decode cX0_next 66 = .ok (.goto 5, 3) := by decide +kernel
theorem dX0_next_69 : decode cX0_next 69 = .ok (.bipush 9, 2) := by decide +kernel
theorem dX0_next_71 : decode cX0_next 71 = .ok (.ireturn, 1) := by decide +kernel
theorem dX0_behindLetter_0 : decode cX0_behindLetter 0 = .ok (.iload_n 0, 1) := by decide +kernel
theorem dX0_behindLetter_1 : decode cX0_behindLetter 1 = .ok (.lookupswitch 42 #[(99, 37), (108, 35), (109, 39)], 35) := by decide +kernel
theorem dX0_behindLetter_36 : decode cX0_behindLetter 36 = .ok (.iconst 1, 1) := by decide +kernel
theorem dX0_behindLetter_37 : decode cX0_behindLetter 37 = .ok (.ireturn, 1) := by decide +kernel
theorem dX0_behindLetter_38 : decode cX0_behindLetter 38 = .ok (.iconst 4, 1) := by decide +kernel
theorem dX0_behindLetter_39 : decode cX0_behindLetter 39 = .ok (.ireturn, 1) := by decide +kernel
theorem dX0_behindLetter_40 : decode cX0_behindLetter 40 = .ok (.bipush 6, 2) := by decide +kernel
theorem dX0_behindLetter_42 : decode cX0_behindLetter 42 = .ok (.ireturn, 1) := by decide +kernel
theorem dX0_behindLetter_43 : decode cX0_behindLetter 43 = .ok (.bipush 9, 2) := by decide +kernel
theorem dX0_behindLetter_45 : decode cX0_behindLetter 45 = .ok (.ireturn, 1) := by decide +kernel
theorem dX0_behindDigit_0 : decode cX0_behindDigit 0 = .ok (.iload_n 0, 1) := by decide +kernel
theorem dX0_behindDigit_1 : decode cX0_behindDigit 1 = .ok (.tableswitch 71 1 7 #[43, 45, 47, 49, 51, 54, 68], 43) := by decide +kernel
theorem dX0_behindDigit_44 : decode cX0_behindDigit 44 = .ok (.iconst 2, 1) := by decide +kernel
theorem dX0_behindDigit_45 : decode cX0_behindDigit 45 = .ok (.ireturn, 1) := by decide +kernel
theorem dX0_behindDigit_46 : decode cX0_behindDigit 46 = .ok (.iconst 3, 1) := by decide +kernel
theorem dX0_behindDigit_47 : decode cX0_behindDigit 47 = .ok (.ireturn, 1) := by decide +kernel
theorem dX0_behindDigit_48 : decode cX0_behindDigit 48 = .ok (.iconst 3, 1) := by decide +kernel
theorem dX0_behindDigit_49 : decode cX0_behindDigit 49 = .ok (.ireturn, 1) := by decide +kernel
theorem dX0_behindDigit_50 : decode cX0_behindDigit 50 = .ok (.iconst 5, 1) := by decide +kernel
theorem dX0_behindDigit_51 : decode cX0_behindDigit 51 = .ok (.ireturn, 1) := by decide +kernel
theorem dX0_behindDigit_52 : decode cX0_behindDigit 52 = .ok (.bipush 8, 2) := by decide +kernel
theorem dX0_behindDigit_54 : decode cX0_behindDigit 54 = .ok (.ireturn, 1) := by decide +kernel
theorem dX0_behindDigit_55 : decode cX0_behindDigit 55 = .ok (.iload_n 1, 1) := by decide +kernel
theorem dX0_behindDigit_56 : decode cX0_behindDigit 56 = .ok (.bipush 48, 2) := by decide +kernel
theorem dX0_behindDigit_58 : decode cX0_behindDigit 58 = .ok (.if_icmp .ne 8, 3) := by decide +kernel
theorem dX0_behindDigit_61 : decode cX0_behindDigit 61 = .ok (.bipush 8, 2) := by decide +kernel
theorem dX0_behindDigit_63 : decode cX0_behindDigit 63 = .ok (.goto 5, 3) := by decide +kernel
theorem dX0_behindDigit_66 : decode cX0_behindDigit 66 = .ok (.bipush 7, 2) := by decide +kernel
theorem dX0_behindDigit_68 : decode cX0_behindDigit 68 = .ok (.ireturn, 1) := by decide +kernel
theorem dX0_behindDigit_69 : decode cX0_behindDigit 69 = .ok (.bipush 8, 2) := by decide +kernel
theorem dX0_behindDigit_71 : decode cX0_behindDigit 71 = .ok (.ireturn, 1) := by decide +kernel
theorem dX0_behindDigit_72 : decode cX0_behindDigit 72 = .ok (.bipush 9, 2) := by decide +kernel
theorem dX0_behindDigit_74 : decode cX0_behindDigit 74 = .ok (.ireturn, 1) := by decide +kernel
theorem dX0_carryOut_0 : decode cX0_carryOut 0 = .ok (.aload_n 0, 1) := by decide +kernel
theorem dX0_carryOut_1 : decode cX0_carryOut 1 = .ok (.iload_n 1, 1) := by decide +kernel
theorem dX0_carryOut_2 : decode cX0_carryOut 2 = .ok (.invokevirtual 32, 3) := by decide +kernel
theorem dX0_carryOut_5 : decode cX0_carryOut 5 = .ok (.ifCond .ne 5, 3) := by decide +kernel
theorem dX0_carryOut_8 : decode cX0_carryOut 8 = .ok (.iconst 0, 1) := by decide +kernel
theorem dX0_carryOut_9 : decode cX0_carryOut 9 = .ok (.ireturn, 1) := by decide +kernel
theorem dX0_carryOut_10 : decode cX0_carryOut 10 = .ok (.aload_n 0, 1) := by decide +kernel
theorem dX0_carryOut_11 : decode cX0_carryOut 11 = .ok (.getfield 17, 3) := by decide +kernel
theorem dX0_carryOut_14 : decode cX0_carryOut 14 = .ok (.iload_n 1, 1) := by decide +kernel
theorem dX0_carryOut_15 : decode cX0_carryOut 15 = .ok (.iaload, 1) := by decide +kernel
theorem dX0_carryOut_16 : decode cX0_carryOut 16 = .ok (.lookupswitch 55 #[(99, 36), (108, 28)], 28) := by decide +kernel
theorem dX0_carryOut_44 : decode cX0_carryOut 44 = .ok (.aload_n 0, 1) := by decide +kernel
theorem dX0_carryOut_45 : decode cX0_carryOut 45 = .ok (.iload_n 1, 1) := by decide +kernel
theorem dX0_carryOut_46 : decode cX0_carryOut 46 = .ok (.iload_n 2, 1) := by decide +kernel
theorem dX0_carryOut_47 : decode cX0_carryOut 47 = .ok (.aload_n 3, 1) := by decide +kernel
theorem dX0_carryOut_48 : decode cX0_carryOut 48 = .ok (.invokestatic 36, 3) := by decide +kernel
theorem dX0_carryOut_51 : decode cX0_carryOut 51 = .ok (.ireturn, 1) := by decide +kernel
theorem dX0_carryOut_52 : decode cX0_carryOut 52 = .ok (.aload_n 3, 1) := by decide +kernel
theorem dX0_carryOut_53 : decode cX0_carryOut 53 = .ok (.aload_n 0, 1) := by decide +kernel
theorem dX0_carryOut_54 : decode cX0_carryOut 54 = .ok (.iload_n 1, 1) := by decide +kernel
theorem dX0_carryOut_55 : decode cX0_carryOut 55 = .ok (.iconst 1, 1) := by decide +kernel
theorem dX0_carryOut_56 : decode cX0_carryOut 56 = .ok (.iadd, 1) := by decide +kernel
theorem dX0_carryOut_57 : decode cX0_carryOut 57 = .ok (.invokestatic 40, 3) := by decide +kernel
theorem dX0_carryOut_60 : decode cX0_carryOut 60 = .ok (.aload_n 0, 1) := by decide +kernel
theorem dX0_carryOut_61 : decode cX0_carryOut 61 = .ok (.iload_n 1, 1) := by decide +kernel
theorem dX0_carryOut_62 : decode cX0_carryOut 62 = .ok (.iconst 2, 1) := by decide +kernel
theorem dX0_carryOut_63 : decode cX0_carryOut 63 = .ok (.iadd, 1) := by decide +kernel
theorem dX0_carryOut_64 : decode cX0_carryOut 64 = .ok (.invokestatic 40, 3) := by decide +kernel
theorem dX0_carryOut_67 : decode cX0_carryOut 67 = .ok (.invokestatic 44, 3) := by decide +kernel
theorem dX0_carryOut_70 : decode cX0_carryOut 70 = .ok (.ireturn, 1) := by decide +kernel
theorem dX0_carryOut_71 : decode cX0_carryOut 71 = .ok (.aload_n 3, 1) := by decide +kernel
theorem dX0_carryOut_72 : decode cX0_carryOut 72 = .ok (.aload_n 0, 1) := by decide +kernel
theorem dX0_carryOut_73 : decode cX0_carryOut 73 = .ok (.iload_n 1, 1) := by decide +kernel
theorem dX0_carryOut_74 : decode cX0_carryOut 74 = .ok (.iconst 1, 1) := by decide +kernel
theorem dX0_carryOut_75 : decode cX0_carryOut 75 = .ok (.iadd, 1) := by decide +kernel
theorem dX0_carryOut_76 : decode cX0_carryOut 76 = .ok (.iload_n 2, 1) := by decide +kernel
theorem dX0_carryOut_77 : decode cX0_carryOut 77 = .ok (.invokestatic 48, 3) := by decide +kernel
theorem dX0_carryOut_80 : decode cX0_carryOut 80 = .ok (.invokevirtual 52, 3) := by decide +kernel
theorem dX0_carryOut_83 : decode cX0_carryOut 83 = .ok (.pop, 1) := by decide +kernel
theorem dX0_carryOut_84 : decode cX0_carryOut 84 = .ok (.iconst 1, 1) := by decide +kernel
theorem dX0_carryOut_85 : decode cX0_carryOut 85 = .ok (.ireturn, 1) := by decide +kernel
theorem dX0_addLane_0 : decode cX0_addLane 0 = .ok (.aload_n 0, 1) := by decide +kernel
theorem dX0_addLane_1 : decode cX0_addLane 1 = .ok (.iload_n 1, 1) := by decide +kernel
theorem dX0_addLane_2 : decode cX0_addLane 2 = .ok (.iconst 1, 1) := by decide +kernel
theorem dX0_addLane_3 : decode cX0_addLane 3 = .ok (.iadd, 1) := by decide +kernel
theorem dX0_addLane_4 : decode cX0_addLane 4 = .ok (.invokestatic 40, 3) := by decide +kernel
theorem dX0_addLane_7 : decode cX0_addLane 7 = .ok (.istore 4, 2) := by decide +kernel
theorem dX0_addLane_9 : decode cX0_addLane 9 = .ok (.iload 4, 2) := by decide +kernel
theorem dX0_addLane_11 : decode cX0_addLane 11 = .ok (.bipush 7, 2) := by decide +kernel
theorem dX0_addLane_13 : decode cX0_addLane 13 = .ok (.if_icmp .gt 19, 3) := by decide +kernel
theorem dX0_addLane_16 : decode cX0_addLane 16 = .ok (.aload_n 3, 1) := by decide +kernel
theorem dX0_addLane_17 : decode cX0_addLane 17 = .ok (.iload 4, 2) := by decide +kernel
theorem dX0_addLane_19 : decode cX0_addLane 19 = .ok (.aload_n 0, 1) := by decide +kernel
theorem dX0_addLane_20 : decode cX0_addLane 20 = .ok (.iload_n 1, 1) := by decide +kernel
theorem dX0_addLane_21 : decode cX0_addLane 21 = .ok (.iconst 2, 1) := by decide +kernel
theorem dX0_addLane_22 : decode cX0_addLane 22 = .ok (.iadd, 1) := by decide +kernel
theorem dX0_addLane_23 : decode cX0_addLane 23 = .ok (.invokestatic 40, 3) := by decide +kernel
theorem dX0_addLane_26 : decode cX0_addLane 26 = .ok (.invokevirtual 57, 3) := by decide +kernel
theorem dX0_addLane_29 : decode cX0_addLane 29 = .ok (.ifCond .ne 5, 3) := by decide +kernel
theorem dX0_addLane_32 : decode cX0_addLane 32 = .ok (.iconst 0, 1) := by decide +kernel
theorem dX0_addLane_33 : decode cX0_addLane 33 = .ok (.ireturn, 1) := by decide +kernel
theorem dX0_addLane_34 : decode cX0_addLane 34 = .ok (.iload_n 1, 1) := by decide +kernel
theorem dX0_addLane_35 : decode cX0_addLane 35 = .ok (.iconst 3, 1) := by decide +kernel
theorem dX0_addLane_36 : decode cX0_addLane 36 = .ok (.iadd, 1) := by decide +kernel
theorem dX0_addLane_37 : decode cX0_addLane 37 = .ok (.istore 5, 2) := by decide +kernel
theorem dX0_addLane_39 : decode cX0_addLane 39 = .ok (.iload 5, 2) := by decide +kernel
theorem dX0_addLane_41 : decode cX0_addLane 41 = .ok (.iload_n 2, 1) := by decide +kernel
theorem dX0_addLane_42 : decode cX0_addLane 42 = .ok (.if_icmp .ge 30, 3) := by decide +kernel
theorem dX0_addLane_45 : decode cX0_addLane 45 = .ok (.aload_n 3, 1) := by decide +kernel
theorem dX0_addLane_46 : decode cX0_addLane 46 = .ok (.aload_n 3, 1) := by decide +kernel
theorem dX0_addLane_47 : decode cX0_addLane 47 = .ok (.getfield 60, 3) := by decide +kernel
theorem dX0_addLane_50 : decode cX0_addLane 50 = .ok (.iconst 1, 1) := by decide +kernel
theorem dX0_addLane_51 : decode cX0_addLane 51 = .ok (.isub, 1) := by decide +kernel
theorem dX0_addLane_52 : decode cX0_addLane 52 = .ok (.aload_n 0, 1) := by decide +kernel
theorem dX0_addLane_53 : decode cX0_addLane 53 = .ok (.iload 5, 2) := by decide +kernel
theorem dX0_addLane_55 : decode cX0_addLane 55 = .ok (.invokestatic 40, 3) := by decide +kernel
theorem dX0_addLane_58 : decode cX0_addLane 58 = .ok (.invokestatic 44, 3) := by decide +kernel
theorem dX0_addLane_61 : decode cX0_addLane 61 = .ok (.ifCond .ne 5, 3) := by decide +kernel
theorem dX0_addLane_64 : decode cX0_addLane 64 = .ok (.iconst 0, 1) := by decide +kernel
theorem dX0_addLane_65 : decode cX0_addLane 65 = .ok (.ireturn, 1) := by decide +kernel
theorem dX0_addLane_66 : decode cX0_addLane 66 = .ok (.iinc 5 1, 3) := by decide +kernel
theorem dX0_addLane_69 : decode cX0_addLane 69 = .ok (.goto (-30), 3) := by decide +kernel
theorem dX0_addLane_72 : decode cX0_addLane 72 = .ok (.iconst 1, 1) := by decide +kernel
theorem dX0_addLane_73 : decode cX0_addLane 73 = .ok (.ireturn, 1) := by decide +kernel
theorem dX0_addCar_0 : decode cX0_addCar 0 = .ok (.aload_n 0, 1) := by decide +kernel
theorem dX0_addCar_1 : decode cX0_addCar 1 = .ok (.iload_n 1, 1) := by decide +kernel
theorem dX0_addCar_2 : decode cX0_addCar 2 = .ok (.invokevirtual 63, 3) := by decide +kernel
theorem dX0_addCar_5 : decode cX0_addCar 5 = .ok (.ifCond .eq 22, 3) := by decide +kernel
theorem dX0_addCar_8 : decode cX0_addCar 8 = .ok (.iload_n 2, 1) := by decide +kernel
theorem dX0_addCar_9 : decode cX0_addCar 9 = .ok (.invokestatic 66, 3) := by decide +kernel
theorem dX0_addCar_12 : decode cX0_addCar 12 = .ok (.ifCond .eq 15, 3) := by decide +kernel
theorem dX0_addCar_15 : decode cX0_addCar 15 = .ok (.aload_n 0, 1) := by decide +kernel
theorem dX0_addCar_16 : decode cX0_addCar 16 = .ok (.getfield 69, 3) := by decide +kernel
theorem dX0_addCar_19 : decode cX0_addCar 19 = .ok (.iload_n 1, 1) := by decide +kernel
theorem dX0_addCar_20 : decode cX0_addCar 20 = .ok (.aaload, 1) := by decide +kernel
theorem dX0_addCar_21 : decode cX0_addCar 21 = .ok (.invokevirtual 73, 3) := by decide +kernel
theorem dX0_addCar_24 : decode cX0_addCar 24 = .ok (.ifCond .ne 5, 3) := by decide +kernel
theorem dX0_addCar_27 : decode cX0_addCar 27 = .ok (.iconst 0, 1) := by decide +kernel
theorem dX0_addCar_28 : decode cX0_addCar 28 = .ok (.ireturn, 1) := by decide +kernel
theorem dX0_addCar_29 : decode cX0_addCar 29 = .ok (.aload_n 0, 1) := by decide +kernel
theorem dX0_addCar_30 : decode cX0_addCar 30 = .ok (.getfield 69, 3) := by decide +kernel
theorem dX0_addCar_33 : decode cX0_addCar 33 = .ok (.iload_n 1, 1) := by decide +kernel
theorem dX0_addCar_34 : decode cX0_addCar 34 = .ok (.aaload, 1) := by decide +kernel
theorem dX0_addCar_35 : decode cX0_addCar 35 = .ok (.iload_n 2, 1) := by decide +kernel
theorem dX0_addCar_36 : decode cX0_addCar 36 = .ok (.invokevirtual 79, 3) := by decide +kernel
theorem dX0_addCar_39 : decode cX0_addCar 39 = .ok (.iconst 1, 1) := by decide +kernel
theorem dX0_addCar_40 : decode cX0_addCar 40 = .ok (.ireturn, 1) := by decide +kernel
theorem dX0_digit_0 : decode cX0_digit 0 = .ok (.aload_n 0, 1) := by decide +kernel
theorem dX0_digit_1 : decode cX0_digit 1 = .ok (.iload_n 1, 1) := by decide +kernel
theorem dX0_digit_2 : decode cX0_digit 2 = .ok (.invokevirtual 32, 3) := by decide +kernel
theorem dX0_digit_5 : decode cX0_digit 5 = .ok (.ifCond .eq 15, 3) := by decide +kernel
theorem dX0_digit_8 : decode cX0_digit 8 = .ok (.aload_n 0, 1) := by decide +kernel
theorem dX0_digit_9 : decode cX0_digit 9 = .ok (.getfield 17, 3) := by decide +kernel
theorem dX0_digit_12 : decode cX0_digit 12 = .ok (.iload_n 1, 1) := by decide +kernel
theorem dX0_digit_13 : decode cX0_digit 13 = .ok (.iaload, 1) := by decide +kernel
theorem dX0_digit_14 : decode cX0_digit 14 = .ok (.bipush 48, 2) := by decide +kernel
theorem dX0_digit_16 : decode cX0_digit 16 = .ok (.isub, 1) := by decide +kernel
theorem dX0_digit_17 : decode cX0_digit 17 = .ok (.goto 4, 3) := by decide +kernel
theorem dX0_digit_20 : decode cX0_digit 20 = .ok (.iconst 0, 1) := by decide +kernel
theorem dX0_digit_21 : decode cX0_digit 21 = .ok (.ireturn, 1) := by decide +kernel
theorem dX0_number_0 : decode cX0_number 0 = .ok (.iconst 0, 1) := by decide +kernel
theorem dX0_number_1 : decode cX0_number 1 = .ok (.istore_n 3, 1) := by decide +kernel
theorem dX0_number_2 : decode cX0_number 2 = .ok (.iload_n 1, 1) := by decide +kernel
theorem dX0_number_3 : decode cX0_number 3 = .ok (.istore 4, 2) := by decide +kernel
theorem dX0_number_5 : decode cX0_number 5 = .ok (.iload 4, 2) := by decide +kernel
theorem dX0_number_7 : decode cX0_number 7 = .ok (.iload_n 2, 1) := by decide +kernel
theorem dX0_number_8 : decode cX0_number 8 = .ok (.if_icmp .ge 21, 3) := by decide +kernel
theorem dX0_number_11 : decode cX0_number 11 = .ok (.bipush 10, 2) := by decide +kernel
theorem dX0_number_13 : decode cX0_number 13 = .ok (.iload_n 3, 1) := by decide +kernel
theorem dX0_number_14 : decode cX0_number 14 = .ok (.imul, 1) := by decide +kernel
theorem dX0_number_15 : decode cX0_number 15 = .ok (.aload_n 0, 1) := by decide +kernel
theorem dX0_number_16 : decode cX0_number 16 = .ok (.iload 4, 2) := by decide +kernel
theorem dX0_number_18 : decode cX0_number 18 = .ok (.invokestatic 40, 3) := by decide +kernel
theorem dX0_number_21 : decode cX0_number 21 = .ok (.iadd, 1) := by decide +kernel
theorem dX0_number_22 : decode cX0_number 22 = .ok (.istore_n 3, 1) := by decide +kernel
theorem dX0_number_23 : decode cX0_number 23 = .ok (.iinc 4 1, 3) := by decide +kernel
theorem dX0_number_26 : decode cX0_number 26 = .ok (.goto (-21), 3) := by decide +kernel
theorem dX0_number_29 : decode cX0_number 29 = .ok (.iload_n 3, 1) := by decide +kernel
theorem dX0_number_30 : decode cX0_number 30 = .ok (.ireturn, 1) := by decide +kernel
theorem dX1_init_0 : decode cX1_init 0 = .ok (.aload_n 0, 1) := by decide +kernel
theorem dX1_init_1 : decode cX1_init 1 = .ok (.invokespecial 3, 3) := by decide +kernel
theorem dX1_init_4 : decode cX1_init 4 = .ok (.aload_n 0, 1) := by decide +kernel
theorem dX1_init_5 : decode cX1_init 5 = .ok (.iconst 5, 1) := by decide +kernel
theorem dX1_init_6 : decode cX1_init 6 = .ok (.anewarray 9, 3) := by decide +kernel
theorem dX1_init_9 : decode cX1_init 9 = .ok (.putfield 11, 3) := by decide +kernel
theorem dX1_init_12 : decode cX1_init 12 = .ok (.aload_n 0, 1) := by decide +kernel
theorem dX1_init_13 : decode cX1_init 13 = .ok (.iconst 0, 1) := by decide +kernel
theorem dX1_init_14 : decode cX1_init 14 = .ok (.putfield 17, 3) := by decide +kernel
theorem dX1_init_17 : decode cX1_init 17 = .ok (.aload_n 0, 1) := by decide +kernel
theorem dX1_init_18 : decode cX1_init 18 = .ok (.iconst 0, 1) := by decide +kernel
theorem dX1_init_19 : decode cX1_init 19 = .ok (.putfield 21, 3) := by decide +kernel
theorem dX1_init_22 : decode cX1_init 22 = .ok (.aload_n 0, 1) := by decide +kernel
theorem dX1_init_23 : decode cX1_init 23 = .ok (.iconst 0, 1) := by decide +kernel
theorem dX1_init_24 : decode cX1_init 24 = .ok (.putfield 24, 3) := by decide +kernel
theorem dX1_init_27 : decode cX1_init 27 = .ok (.iconst 0, 1) := by decide +kernel
theorem dX1_init_28 : decode cX1_init 28 = .ok (.istore_n 1, 1) := by decide +kernel
theorem dX1_init_29 : decode cX1_init 29 = .ok (.iload_n 1, 1) := by decide +kernel
theorem dX1_init_30 : decode cX1_init 30 = .ok (.iconst 5, 1) := by decide +kernel
theorem dX1_init_31 : decode cX1_init 31 = .ok (.if_icmp .ge 22, 3) := by decide +kernel
theorem dX1_init_34 : decode cX1_init 34 = .ok (.aload_n 0, 1) := by decide +kernel
theorem dX1_init_35 : decode cX1_init 35 = .ok (.getfield 11, 3) := by decide +kernel
theorem dX1_init_38 : decode cX1_init 38 = .ok (.iload_n 1, 1) := by decide +kernel
theorem dX1_init_39 : decode cX1_init 39 = .ok (.new 9, 3) := by decide +kernel
theorem dX1_init_42 : decode cX1_init 42 = .ok (.dup, 1) := by decide +kernel
theorem dX1_init_43 : decode cX1_init 43 = .ok (.invokespecial 27, 3) := by decide +kernel
theorem dX1_init_46 : decode cX1_init 46 = .ok (.aastore, 1) := by decide +kernel
theorem dX1_init_47 : decode cX1_init 47 = .ok (.iinc 1 1, 3) := by decide +kernel
theorem dX1_init_50 : decode cX1_init 50 = .ok (.goto (-21), 3) := by decide +kernel
theorem dX1_init_53 : decode cX1_init 53 = .ok (.return_, 1) := by decide +kernel
theorem dX1_becomeLike_0 : decode cX1_becomeLike 0 = .ok (.aload_n 0, 1) := by decide +kernel
theorem dX1_becomeLike_1 : decode cX1_becomeLike 1 = .ok (.aload_n 1, 1) := by decide +kernel
theorem dX1_becomeLike_2 : decode cX1_becomeLike 2 = .ok (.getfield 17, 3) := by decide +kernel
theorem dX1_becomeLike_5 : decode cX1_becomeLike 5 = .ok (.putfield 17, 3) := by decide +kernel
theorem dX1_becomeLike_8 : decode cX1_becomeLike 8 = .ok (.aload_n 0, 1) := by decide +kernel
theorem dX1_becomeLike_9 : decode cX1_becomeLike 9 = .ok (.aload_n 1, 1) := by decide +kernel
theorem dX1_becomeLike_10 : decode cX1_becomeLike 10 = .ok (.getfield 21, 3) := by decide +kernel
theorem dX1_becomeLike_13 : decode cX1_becomeLike 13 = .ok (.putfield 21, 3) := by decide +kernel
theorem dX1_becomeLike_16 : decode cX1_becomeLike 16 = .ok (.aload_n 0, 1) := by decide +kernel
theorem dX1_becomeLike_17 : decode cX1_becomeLike 17 = .ok (.aload_n 1, 1) := by decide +kernel
theorem dX1_becomeLike_18 : decode cX1_becomeLike 18 = .ok (.getfield 24, 3) := by decide +kernel
theorem dX1_becomeLike_21 : decode cX1_becomeLike 21 = .ok (.putfield 24, 3) := by decide +kernel
theorem dX1_becomeLike_24 : decode cX1_becomeLike 24 = .ok (.iconst 0, 1) := by decide +kernel
theorem dX1_becomeLike_25 : decode cX1_becomeLike 25 = .ok (.istore_n 2, 1) := by decide +kernel
theorem dX1_becomeLike_26 : decode cX1_becomeLike 26 = .ok (.iload_n 2, 1) := by decide +kernel
theorem dX1_becomeLike_27 : decode cX1_becomeLike 27 = .ok (.aload_n 0, 1) := by decide +kernel
theorem dX1_becomeLike_28 : decode cX1_becomeLike 28 = .ok (.getfield 17, 3) := by decide +kernel
theorem dX1_becomeLike_31 : decode cX1_becomeLike 31 = .ok (.if_icmp .ge 24, 3) := by decide +kernel
theorem dX1_becomeLike_34 : decode cX1_becomeLike 34 = .ok (.aload_n 0, 1) := by decide +kernel
theorem dX1_becomeLike_35 : decode cX1_becomeLike 35 = .ok (.getfield 11, 3) := by decide +kernel
theorem dX1_becomeLike_38 : decode cX1_becomeLike 38 = .ok (.iload_n 2, 1) := by decide +kernel
theorem dX1_becomeLike_39 : decode cX1_becomeLike 39 = .ok (.aaload, 1) := by decide +kernel
theorem dX1_becomeLike_40 : decode cX1_becomeLike 40 = .ok (.aload_n 1, 1) := by decide +kernel
theorem dX1_becomeLike_41 : decode cX1_becomeLike 41 = .ok (.getfield 11, 3) := by decide +kernel
theorem dX1_becomeLike_44 : decode cX1_becomeLike 44 = .ok (.iload_n 2, 1) := by decide +kernel
theorem dX1_becomeLike_45 : decode cX1_becomeLike 45 = .ok (.aaload, 1) := by decide +kernel
theorem dX1_becomeLike_46 : decode cX1_becomeLike 46 = .ok (.invokevirtual 28, 3) := by decide +kernel
theorem dX1_becomeLike_49 : decode cX1_becomeLike 49 = .ok (.iinc 2 1, 3) := by decide +kernel
theorem dX1_becomeLike_52 : decode cX1_becomeLike 52 = .ok (.goto (-26), 3) := by decide +kernel
theorem dX1_becomeLike_55 : decode cX1_becomeLike 55 = .ok (.return_, 1) := by decide +kernel
theorem dX1_has_0 : decode cX1_has 0 = .ok (.iload_n 1, 1) := by decide +kernel
theorem dX1_has_1 : decode cX1_has 1 = .ok (.ifCond .lt 15, 3) := by decide +kernel
theorem dX1_has_4 : decode cX1_has 4 = .ok (.iload_n 1, 1) := by decide +kernel
theorem dX1_has_5 : decode cX1_has 5 = .ok (.aload_n 0, 1) := by decide +kernel
theorem dX1_has_6 : decode cX1_has 6 = .ok (.getfield 17, 3) := by decide +kernel
theorem dX1_has_9 : decode cX1_has 9 = .ok (.if_icmp .ge 7, 3) := by decide +kernel
theorem dX1_has_12 : decode cX1_has 12 = .ok (.iconst 1, 1) := by decide +kernel
theorem dX1_has_13 : decode cX1_has 13 = .ok (.goto 4, 3) := by decide +kernel
theorem dX1_has_16 : decode cX1_has 16 = .ok (.iconst 0, 1) := by decide +kernel
theorem dX1_has_17 : decode cX1_has 17 = .ok (.ireturn, 1) := by decide +kernel
theorem dX1_hasCar_0 : decode cX1_hasCar 0 = .ok (.aload_n 0, 1) := by decide +kernel
theorem dX1_hasCar_1 : decode cX1_hasCar 1 = .ok (.iload_n 1, 1) := by decide +kernel
theorem dX1_hasCar_2 : decode cX1_hasCar 2 = .ok (.invokevirtual 32, 3) := by decide +kernel
theorem dX1_hasCar_5 : decode cX1_hasCar 5 = .ok (.ifCond .eq 24, 3) := by decide +kernel
theorem dX1_hasCar_8 : decode cX1_hasCar 8 = .ok (.iload_n 2, 1) := by decide +kernel
theorem dX1_hasCar_9 : decode cX1_hasCar 9 = .ok (.ifCond .lt 20, 3) := by decide +kernel
theorem dX1_hasCar_12 : decode cX1_hasCar 12 = .ok (.iload_n 2, 1) := by decide +kernel
theorem dX1_hasCar_13 : decode cX1_hasCar 13 = .ok (.aload_n 0, 1) := by decide +kernel
theorem dX1_hasCar_14 : decode cX1_hasCar 14 = .ok (.getfield 11, 3) := by decide +kernel
theorem dX1_hasCar_17 : decode cX1_hasCar 17 = .ok (.iload_n 1, 1) := by decide +kernel
theorem dX1_hasCar_18 : decode cX1_hasCar 18 = .ok (.aaload, 1) := by decide +kernel
theorem dX1_hasCar_19 : decode cX1_hasCar 19 = .ok (.getfield 36, 3) := by decide +kernel
theorem dX1_hasCar_22 : decode cX1_hasCar 22 = .ok (.if_icmp .ge 7, 3) := by decide +kernel
theorem dX1_hasCar_25 : decode cX1_hasCar 25 = .ok (.iconst 1, 1) := by decide +kernel
theorem dX1_hasCar_26 : decode cX1_hasCar 26 = .ok (.goto 4, 3) := by decide +kernel
theorem dX1_hasCar_29 : decode cX1_hasCar 29 = .ok (.iconst 0, 1) := by decide +kernel
theorem dX1_hasCar_30 : decode cX1_hasCar 30 = .ok (.ireturn, 1) := by decide +kernel
theorem dX1_addLane_0 : decode cX1_addLane 0 = .ok (.aload_n 0, 1) := by decide +kernel
theorem dX1_addLane_1 : decode cX1_addLane 1 = .ok (.getfield 17, 3) := by decide +kernel
theorem dX1_addLane_4 : decode cX1_addLane 4 = .ok (.iconst 5, 1) := by decide +kernel
theorem dX1_addLane_5 : decode cX1_addLane 5 = .ok (.if_icmp .lt 5, 3) := by decide +kernel
theorem dX1_addLane_8 : decode cX1_addLane 8 = .ok (.iconst 0, 1) := by decide +kernel
theorem dX1_addLane_9 : decode cX1_addLane 9 = .ok (.ireturn, 1) := by decide +kernel
theorem dX1_addLane_10 : decode cX1_addLane 10 = .ok (.aload_n 0, 1) := by decide +kernel
theorem dX1_addLane_11 : decode cX1_addLane 11 = .ok (.getfield 11, 3) := by decide +kernel
theorem dX1_addLane_14 : decode cX1_addLane 14 = .ok (.aload_n 0, 1) := by decide +kernel
theorem dX1_addLane_15 : decode cX1_addLane 15 = .ok (.getfield 17, 3) := by decide +kernel
theorem dX1_addLane_18 : decode cX1_addLane 18 = .ok (.aaload, 1) := by decide +kernel
theorem dX1_addLane_19 : decode cX1_addLane 19 = .ok (.iload_n 1, 1) := by decide +kernel
theorem dX1_addLane_20 : decode cX1_addLane 20 = .ok (.iload_n 2, 1) := by decide +kernel
theorem dX1_addLane_21 : decode cX1_addLane 21 = .ok (.invokevirtual 39, 3) := by decide +kernel
theorem dX1_addLane_24 : decode cX1_addLane 24 = .ok (.aload_n 0, 1) := by decide +kernel
theorem dX1_addLane_25 : decode cX1_addLane 25 = .ok (.dup, 1) := by decide +kernel
theorem dX1_addLane_26 : decode cX1_addLane 26 = .ok (.getfield 17, 3) := by decide +kernel
theorem dX1_addLane_29 : decode cX1_addLane 29 = .ok (.iconst 1, 1) := by decide +kernel
theorem dX1_addLane_30 : decode cX1_addLane 30 = .ok (.iadd, 1) := by decide +kernel
theorem dX1_addLane_31 : decode cX1_addLane 31 = .ok (.putfield 17, 3) := by decide +kernel
theorem dX1_addLane_34 : decode cX1_addLane 34 = .ok (.iconst 1, 1) := by decide +kernel
theorem dX1_addLane_35 : decode cX1_addLane 35 = .ok (.ireturn, 1) := by decide +kernel
theorem dX1_goBy_0 : decode cX1_goBy 0 = .ok (.iconst 0, 1) := by decide +kernel
theorem dX1_goBy_1 : decode cX1_goBy 1 = .ok (.istore_n 2, 1) := by decide +kernel
theorem dX1_goBy_2 : decode cX1_goBy 2 = .ok (.iconst 0, 1) := by decide +kernel
theorem dX1_goBy_3 : decode cX1_goBy 3 = .ok (.istore_n 3, 1) := by decide +kernel
theorem dX1_goBy_4 : decode cX1_goBy 4 = .ok (.iload_n 3, 1) := by decide +kernel
theorem dX1_goBy_5 : decode cX1_goBy 5 = .ok (.iload_n 1, 1) := by decide +kernel
theorem dX1_goBy_6 : decode cX1_goBy 6 = .ok (.if_icmp .ge 48, 3) := by decide +kernel
theorem dX1_goBy_9 : decode cX1_goBy 9 = .ok (.iconst 0, 1) := by decide +kernel
theorem dX1_goBy_10 : decode cX1_goBy 10 = .ok (.istore 4, 2) := by decide +kernel
theorem dX1_goBy_12 : decode cX1_goBy 12 = .ok (.iload 4, 2) := by decide +kernel
theorem dX1_goBy_14 : decode cX1_goBy 14 = .ok (.aload_n 0, 1) := by decide +kernel
theorem dX1_goBy_15 : decode cX1_goBy 15 = .ok (.getfield 17, 3) := by decide +kernel
theorem dX1_goBy_18 : decode cX1_goBy 18 = .ok (.if_icmp .ge 30, 3) := by decide +kernel
theorem dX1_goBy_21 : decode cX1_goBy 21 = .ok (.iload_n 2, 1) := by decide +kernel
theorem dX1_goBy_22 : decode cX1_goBy 22 = .ok (.aload_n 0, 1) := by decide +kernel
theorem dX1_goBy_23 : decode cX1_goBy 23 = .ok (.getfield 11, 3) := by decide +kernel
theorem dX1_goBy_26 : decode cX1_goBy 26 = .ok (.iload 4, 2) := by decide +kernel
theorem dX1_goBy_28 : decode cX1_goBy 28 = .ok (.aaload, 1) := by decide +kernel
theorem dX1_goBy_29 : decode cX1_goBy 29 = .ok (.invokevirtual 43, 3) := by decide +kernel
theorem dX1_goBy_32 : decode cX1_goBy 32 = .ok (.ifCond .eq 7, 3) := by decide +kernel
theorem dX1_goBy_35 : decode cX1_goBy 35 = .ok (.iconst 1, 1) := by decide +kernel
theorem dX1_goBy_36 : decode cX1_goBy 36 = .ok (.goto 4, 3) := by decide +kernel
theorem dX1_goBy_39 : decode cX1_goBy 39 = .ok (.iconst 0, 1) := by decide +kernel
theorem dX1_goBy_40 : decode cX1_goBy 40 = .ok (.iadd, 1) := by decide +kernel
theorem dX1_goBy_41 : decode cX1_goBy 41 = .ok (.istore_n 2, 1) := by decide +kernel
theorem dX1_goBy_42 : decode cX1_goBy 42 = .ok (.iinc 4 1, 3) := by decide +kernel
theorem dX1_goBy_45 : decode cX1_goBy 45 = .ok (.goto (-33), 3) := by decide +kernel
theorem dX1_goBy_48 : decode cX1_goBy 48 = .ok (.iinc 3 1, 3) := by decide +kernel
theorem dX1_goBy_51 : decode cX1_goBy 51 = .ok (.goto (-47), 3) := by decide +kernel
theorem dX1_goBy_54 : decode cX1_goBy 54 = .ok (.aload_n 0, 1) := by decide +kernel
theorem dX1_goBy_55 : decode cX1_goBy 55 = .ok (.dup, 1) := by decide +kernel
theorem dX1_goBy_56 : decode cX1_goBy 56 = .ok (.getfield 21, 3) := by decide +kernel
theorem dX1_goBy_59 : decode cX1_goBy 59 = .ok (.iload_n 1, 1) := by decide +kernel
theorem dX1_goBy_60 : decode cX1_goBy 60 = .ok (.iadd, 1) := by decide +kernel
theorem dX1_goBy_61 : decode cX1_goBy 61 = .ok (.putfield 21, 3) := by decide +kernel
theorem dX1_goBy_64 : decode cX1_goBy 64 = .ok (.aload_n 0, 1) := by decide +kernel
theorem dX1_goBy_65 : decode cX1_goBy 65 = .ok (.dup, 1) := by decide +kernel
theorem dX1_goBy_66 : decode cX1_goBy 66 = .ok (.getfield 24, 3) := by decide +kernel
theorem dX1_goBy_69 : decode cX1_goBy 69 = .ok (.iload_n 2, 1) := by decide +kernel
theorem dX1_goBy_70 : decode cX1_goBy 70 = .ok (.iadd, 1) := by decide +kernel
theorem dX1_goBy_71 : decode cX1_goBy 71 = .ok (.putfield 24, 3) := by decide +kernel
theorem dX1_goBy_74 : decode cX1_goBy 74 = .ok (.iload_n 2, 1) := by decide +kernel
theorem dX1_goBy_75 : decode cX1_goBy 75 = .ok (.ireturn, 1) := by decide +kernel
theorem dX1_seemingLane_0 : decode cX1_seemingLane 0 = .ok (.bipush (-4), 2) := by decide +kernel
theorem dX1_seemingLane_2 : decode cX1_seemingLane 2 = .ok (.istore_n 1, 1) := by decide +kernel
theorem dX1_seemingLane_3 : decode cX1_seemingLane 3 = .ok (.ldc 49, 2) := by decide +kernel
theorem dX1_seemingLane_5 : decode cX1_seemingLane 5 = .ok (.istore_n 2, 1) := by decide +kernel
theorem dX1_seemingLane_6 : decode cX1_seemingLane 6 = .ok (.iconst 0, 1) := by decide +kernel
theorem dX1_seemingLane_7 : decode cX1_seemingLane 7 = .ok (.istore_n 3, 1) := by decide +kernel
theorem dX1_seemingLane_8 : decode cX1_seemingLane 8 = .ok (.iload_n 3, 1) := by decide +kernel
theorem dX1_seemingLane_9 : decode cX1_seemingLane 9 = .ok (.aload_n 0, 1) := by decide +kernel
theorem dX1_seemingLane_10 : decode cX1_seemingLane 10 = .ok (.getfield 17, 3) := by decide +kernel
theorem dX1_seemingLane_13 : decode cX1_seemingLane 13 = .ok (.if_icmp .ge 43, 3) := by decide +kernel
theorem dX1_seemingLane_16 : decode cX1_seemingLane 16 = .ok (.aload_n 0, 1) := by decide +kernel
theorem dX1_seemingLane_17 : decode cX1_seemingLane 17 = .ok (.getfield 11, 3) := by decide +kernel
theorem dX1_seemingLane_20 : decode cX1_seemingLane 20 = .ok (.iload_n 3, 1) := by decide +kernel
theorem dX1_seemingLane_21 : decode cX1_seemingLane 21 = .ok (.aaload, 1) := by decide +kernel
theorem dX1_seemingLane_22 : decode cX1_seemingLane 22 = .ok (.invokevirtual 50, 3) := by decide +kernel
theorem dX1_seemingLane_25 : decode cX1_seemingLane 25 = .ok (.istore 4, 2) := by decide +kernel
theorem dX1_seemingLane_27 : decode cX1_seemingLane 27 = .ok (.aload_n 0, 1) := by decide +kernel
theorem dX1_seemingLane_28 : decode cX1_seemingLane 28 = .ok (.getfield 11, 3) := by decide +kernel
theorem dX1_seemingLane_31 : decode cX1_seemingLane 31 = .ok (.iload_n 3, 1) := by decide +kernel
theorem dX1_seemingLane_32 : decode cX1_seemingLane 32 = .ok (.aaload, 1) := by decide +kernel
theorem dX1_seemingLane_33 : decode cX1_seemingLane 33 = .ok (.invokevirtual 54, 3) := by decide +kernel
theorem dX1_seemingLane_36 : decode cX1_seemingLane 36 = .ok (.ifCond .eq 14, 3) := by decide +kernel
theorem dX1_seemingLane_39 : decode cX1_seemingLane 39 = .ok (.iload 4, 2) := by decide +kernel
theorem dX1_seemingLane_41 : decode cX1_seemingLane 41 = .ok (.iload_n 2, 1) := by decide +kernel
theorem dX1_seemingLane_42 : decode cX1_seemingLane 42 = .ok (.if_icmp .ge 8, 3) := by decide +kernel
theorem dX1_seemingLane_45 : decode cX1_seemingLane 45 = .ok (.iload 4, 2) := by decide +kernel
theorem dX1_seemingLane_47 : decode cX1_seemingLane 47 = .ok (.istore_n 2, 1) := by decide +kernel
theorem dX1_seemingLane_48 : decode cX1_seemingLane 48 = .ok (.iload_n 3, 1) := by decide +kernel
theorem dX1_seemingLane_49 : decode cX1_seemingLane 49 = .ok (.istore_n 1, 1) := by decide +kernel
theorem dX1_seemingLane_50 : decode cX1_seemingLane 50 = .ok (.iinc 3 1, 3) := by decide +kernel
theorem dX1_seemingLane_53 : decode cX1_seemingLane 53 = .ok (.goto (-45), 3) := by decide +kernel
theorem dX1_seemingLane_56 : decode cX1_seemingLane 56 = .ok (.iload_n 1, 1) := by decide +kernel
theorem dX1_seemingLane_57 : decode cX1_seemingLane 57 = .ok (.ireturn, 1) := by decide +kernel
theorem dX1_quickestLane_0 : decode cX1_quickestLane 0 = .ok (.bipush (-4), 2) := by decide +kernel
theorem dX1_quickestLane_2 : decode cX1_quickestLane 2 = .ok (.istore_n 2, 1) := by decide +kernel
theorem dX1_quickestLane_3 : decode cX1_quickestLane 3 = .ok (.ldc 49, 2) := by decide +kernel
theorem dX1_quickestLane_5 : decode cX1_quickestLane 5 = .ok (.istore_n 3, 1) := by decide +kernel
theorem dX1_quickestLane_6 : decode cX1_quickestLane 6 = .ok (.iconst 0, 1) := by decide +kernel
theorem dX1_quickestLane_7 : decode cX1_quickestLane 7 = .ok (.istore 4, 2) := by decide +kernel
theorem dX1_quickestLane_9 : decode cX1_quickestLane 9 = .ok (.iload 4, 2) := by decide +kernel
theorem dX1_quickestLane_11 : decode cX1_quickestLane 11 = .ok (.aload_n 0, 1) := by decide +kernel
theorem dX1_quickestLane_12 : decode cX1_quickestLane 12 = .ok (.getfield 17, 3) := by decide +kernel
theorem dX1_quickestLane_15 : decode cX1_quickestLane 15 = .ok (.if_icmp .ge 47, 3) := by decide +kernel
theorem dX1_quickestLane_18 : decode cX1_quickestLane 18 = .ok (.aload_n 0, 1) := by decide +kernel
theorem dX1_quickestLane_19 : decode cX1_quickestLane 19 = .ok (.getfield 11, 3) := by decide +kernel
theorem dX1_quickestLane_22 : decode cX1_quickestLane 22 = .ok (.iload 4, 2) := by decide +kernel
theorem dX1_quickestLane_24 : decode cX1_quickestLane 24 = .ok (.aaload, 1) := by decide +kernel
theorem dX1_quickestLane_25 : decode cX1_quickestLane 25 = .ok (.iload_n 1, 1) := by decide +kernel
theorem dX1_quickestLane_26 : decode cX1_quickestLane 26 = .ok (.invokevirtual 57, 3) := by decide +kernel
theorem dX1_quickestLane_29 : decode cX1_quickestLane 29 = .ok (.istore 5, 2) := by decide +kernel
theorem dX1_quickestLane_31 : decode cX1_quickestLane 31 = .ok (.aload_n 0, 1) := by decide +kernel
theorem dX1_quickestLane_32 : decode cX1_quickestLane 32 = .ok (.getfield 11, 3) := by decide +kernel
theorem dX1_quickestLane_35 : decode cX1_quickestLane 35 = .ok (.iload 4, 2) := by decide +kernel
theorem dX1_quickestLane_37 : decode cX1_quickestLane 37 = .ok (.aaload, 1) := by decide +kernel
theorem dX1_quickestLane_38 : decode cX1_quickestLane 38 = .ok (.invokevirtual 54, 3) := by decide +kernel
theorem dX1_quickestLane_41 : decode cX1_quickestLane 41 = .ok (.ifCond .eq 15, 3) := by decide +kernel
theorem dX1_quickestLane_44 : decode cX1_quickestLane 44 = .ok (.iload 5, 2) := by decide +kernel
theorem dX1_quickestLane_46 : decode cX1_quickestLane 46 = .ok (.iload_n 3, 1) := by decide +kernel
theorem dX1_quickestLane_47 : decode cX1_quickestLane 47 = .ok (.if_icmp .ge 9, 3) := by decide +kernel
theorem dX1_quickestLane_50 : decode cX1_quickestLane 50 = .ok (.iload 5, 2) := by decide +kernel
theorem dX1_quickestLane_52 : decode cX1_quickestLane 52 = .ok (.istore_n 3, 1) := by decide +kernel
theorem dX1_quickestLane_53 : decode cX1_quickestLane 53 = .ok (.iload 4, 2) := by decide +kernel
theorem dX1_quickestLane_55 : decode cX1_quickestLane 55 = .ok (.istore_n 2, 1) := by decide +kernel
theorem dX1_quickestLane_56 : decode cX1_quickestLane 56 = .ok (.iinc 4 1, 3) := by decide +kernel
theorem dX1_quickestLane_59 : decode cX1_quickestLane 59 = .ok (.goto (-50), 3) := by decide +kernel
theorem dX1_quickestLane_62 : decode cX1_quickestLane 62 = .ok (.iload_n 2, 1) := by decide +kernel
theorem dX1_quickestLane_63 : decode cX1_quickestLane 63 = .ok (.ireturn, 1) := by decide +kernel
theorem dX1_leastTime_0 : decode cX1_leastTime 0 = .ok (.aload_n 0, 1) := by decide +kernel
theorem dX1_leastTime_1 : decode cX1_leastTime 1 = .ok (.iload_n 1, 1) := by decide +kernel
theorem dX1_leastTime_2 : decode cX1_leastTime 2 = .ok (.invokevirtual 61, 3) := by decide +kernel
theorem dX1_leastTime_5 : decode cX1_leastTime 5 = .ok (.istore_n 2, 1) := by decide +kernel
theorem dX1_leastTime_6 : decode cX1_leastTime 6 = .ok (.iload_n 2, 1) := by decide +kernel
theorem dX1_leastTime_7 : decode cX1_leastTime 7 = .ok (.ifCond .lt 16, 3) := by decide +kernel
theorem dX1_leastTime_10 : decode cX1_leastTime 10 = .ok (.aload_n 0, 1) := by decide +kernel
theorem dX1_leastTime_11 : decode cX1_leastTime 11 = .ok (.getfield 11, 3) := by decide +kernel
theorem dX1_leastTime_14 : decode cX1_leastTime 14 = .ok (.iload_n 2, 1) := by decide +kernel
theorem dX1_leastTime_15 : decode cX1_leastTime 15 = .ok (.aaload, 1) := by decide +kernel
theorem dX1_leastTime_16 : decode cX1_leastTime 16 = .ok (.iload_n 1, 1) := by decide +kernel
theorem dX1_leastTime_17 : decode cX1_leastTime 17 = .ok (.invokevirtual 57, 3) := by decide +kernel
theorem dX1_leastTime_20 : decode cX1_leastTime 20 = .ok (.goto 5, 3) := by decide +kernel
theorem dX1_leastTime_23 : decode cX1_leastTime 23 = .ok (.ldc 49, 2) := by decide +kernel
theorem dX1_leastTime_25 : decode cX1_leastTime 25 = .ok (.ireturn, 1) := by decide +kernel
theorem dX1_timesTogether_0 : decode cX1_timesTogether 0 = .ok (.iconst 0, 1) := by decide +kernel
theorem dX1_timesTogether_1 : decode cX1_timesTogether 1 = .ok (.istore_n 1, 1) := by decide +kernel
theorem dX1_timesTogether_2 : decode cX1_timesTogether 2 = .ok (.iconst 0, 1) := by decide +kernel
theorem dX1_timesTogether_3 : decode cX1_timesTogether 3 = .ok (.istore_n 2, 1) := by decide +kernel
theorem dX1_timesTogether_4 : decode cX1_timesTogether 4 = .ok (.iload_n 2, 1) := by decide +kernel
theorem dX1_timesTogether_5 : decode cX1_timesTogether 5 = .ok (.aload_n 0, 1) := by decide +kernel
theorem dX1_timesTogether_6 : decode cX1_timesTogether 6 = .ok (.getfield 17, 3) := by decide +kernel
theorem dX1_timesTogether_9 : decode cX1_timesTogether 9 = .ok (.if_icmp .ge 21, 3) := by decide +kernel
theorem dX1_timesTogether_12 : decode cX1_timesTogether 12 = .ok (.iload_n 1, 1) := by decide +kernel
theorem dX1_timesTogether_13 : decode cX1_timesTogether 13 = .ok (.aload_n 0, 1) := by decide +kernel
theorem dX1_timesTogether_14 : decode cX1_timesTogether 14 = .ok (.getfield 11, 3) := by decide +kernel
theorem dX1_timesTogether_17 : decode cX1_timesTogether 17 = .ok (.iload_n 2, 1) := by decide +kernel
theorem dX1_timesTogether_18 : decode cX1_timesTogether 18 = .ok (.aaload, 1) := by decide +kernel
theorem dX1_timesTogether_19 : decode cX1_timesTogether 19 = .ok (.invokevirtual 64, 3) := by decide +kernel
theorem dX1_timesTogether_22 : decode cX1_timesTogether 22 = .ok (.iadd, 1) := by decide +kernel
theorem dX1_timesTogether_23 : decode cX1_timesTogether 23 = .ok (.istore_n 1, 1) := by decide +kernel
theorem dX1_timesTogether_24 : decode cX1_timesTogether 24 = .ok (.iinc 2 1, 3) := by decide +kernel
theorem dX1_timesTogether_27 : decode cX1_timesTogether 27 = .ok (.goto (-23), 3) := by decide +kernel
theorem dX1_timesTogether_30 : decode cX1_timesTogether 30 = .ok (.iload_n 1, 1) := by decide +kernel
theorem dX1_timesTogether_31 : decode cX1_timesTogether 31 = .ok (.ireturn, 1) := by decide +kernel
theorem dX1_carsTogether_0 : decode cX1_carsTogether 0 = .ok (.iconst 0, 1) := by decide +kernel
theorem dX1_carsTogether_1 : decode cX1_carsTogether 1 = .ok (.istore_n 1, 1) := by decide +kernel
theorem dX1_carsTogether_2 : decode cX1_carsTogether 2 = .ok (.iconst 0, 1) := by decide +kernel
theorem dX1_carsTogether_3 : decode cX1_carsTogether 3 = .ok (.istore_n 2, 1) := by decide +kernel
theorem dX1_carsTogether_4 : decode cX1_carsTogether 4 = .ok (.iload_n 2, 1) := by decide +kernel
theorem dX1_carsTogether_5 : decode cX1_carsTogether 5 = .ok (.aload_n 0, 1) := by decide +kernel
theorem dX1_carsTogether_6 : decode cX1_carsTogether 6 = .ok (.getfield 17, 3) := by decide +kernel
theorem dX1_carsTogether_9 : decode cX1_carsTogether 9 = .ok (.if_icmp .ge 21, 3) := by decide +kernel
theorem dX1_carsTogether_12 : decode cX1_carsTogether 12 = .ok (.iload_n 1, 1) := by decide +kernel
theorem dX1_carsTogether_13 : decode cX1_carsTogether 13 = .ok (.aload_n 0, 1) := by decide +kernel
theorem dX1_carsTogether_14 : decode cX1_carsTogether 14 = .ok (.getfield 11, 3) := by decide +kernel
theorem dX1_carsTogether_17 : decode cX1_carsTogether 17 = .ok (.iload_n 2, 1) := by decide +kernel
theorem dX1_carsTogether_18 : decode cX1_carsTogether 18 = .ok (.aaload, 1) := by decide +kernel
theorem dX1_carsTogether_19 : decode cX1_carsTogether 19 = .ok (.getfield 36, 3) := by decide +kernel
theorem dX1_carsTogether_22 : decode cX1_carsTogether 22 = .ok (.iadd, 1) := by decide +kernel
theorem dX1_carsTogether_23 : decode cX1_carsTogether 23 = .ok (.istore_n 1, 1) := by decide +kernel
theorem dX1_carsTogether_24 : decode cX1_carsTogether 24 = .ok (.iinc 2 1, 3) := by decide +kernel
theorem dX1_carsTogether_27 : decode cX1_carsTogether 27 = .ok (.goto (-23), 3) := by decide +kernel
theorem dX1_carsTogether_30 : decode cX1_carsTogether 30 = .ok (.iload_n 1, 1) := by decide +kernel
theorem dX1_carsTogether_31 : decode cX1_carsTogether 31 = .ok (.ireturn, 1) := by decide +kernel
theorem dX1_lanesToChoose_0 : decode cX1_lanesToChoose 0 = .ok (.iconst 0, 1) := by decide +kernel
theorem dX1_lanesToChoose_1 : decode cX1_lanesToChoose 1 = .ok (.istore_n 1, 1) := by decide +kernel
theorem dX1_lanesToChoose_2 : decode cX1_lanesToChoose 2 = .ok (.iconst 0, 1) := by decide +kernel
theorem dX1_lanesToChoose_3 : decode cX1_lanesToChoose 3 = .ok (.istore_n 2, 1) := by decide +kernel
theorem dX1_lanesToChoose_4 : decode cX1_lanesToChoose 4 = .ok (.iload_n 2, 1) := by decide +kernel
theorem dX1_lanesToChoose_5 : decode cX1_lanesToChoose 5 = .ok (.aload_n 0, 1) := by decide +kernel
theorem dX1_lanesToChoose_6 : decode cX1_lanesToChoose 6 = .ok (.getfield 17, 3) := by decide +kernel
theorem dX1_lanesToChoose_9 : decode cX1_lanesToChoose 9 = .ok (.if_icmp .ge 29, 3) := by decide +kernel
theorem dX1_lanesToChoose_12 : decode cX1_lanesToChoose 12 = .ok (.iload_n 1, 1) := by decide +kernel
theorem dX1_lanesToChoose_13 : decode cX1_lanesToChoose 13 = .ok (.aload_n 0, 1) := by decide +kernel
theorem dX1_lanesToChoose_14 : decode cX1_lanesToChoose 14 = .ok (.getfield 11, 3) := by decide +kernel
theorem dX1_lanesToChoose_17 : decode cX1_lanesToChoose 17 = .ok (.iload_n 2, 1) := by decide +kernel
theorem dX1_lanesToChoose_18 : decode cX1_lanesToChoose 18 = .ok (.aaload, 1) := by decide +kernel
theorem dX1_lanesToChoose_19 : decode cX1_lanesToChoose 19 = .ok (.invokevirtual 54, 3) := by decide +kernel
theorem dX1_lanesToChoose_22 : decode cX1_lanesToChoose 22 = .ok (.ifCond .eq 7, 3) := by decide +kernel
theorem dX1_lanesToChoose_25 : decode cX1_lanesToChoose 25 = .ok (.iconst 1, 1) := by decide +kernel
theorem dX1_lanesToChoose_26 : decode cX1_lanesToChoose 26 = .ok (.goto 4, 3) := by decide +kernel
theorem dX1_lanesToChoose_29 : decode cX1_lanesToChoose 29 = .ok (.iconst 0, 1) := by decide +kernel
theorem dX1_lanesToChoose_30 : decode cX1_lanesToChoose 30 = .ok (.iadd, 1) := by decide +kernel
theorem dX1_lanesToChoose_31 : decode cX1_lanesToChoose 31 = .ok (.istore_n 1, 1) := by decide +kernel
theorem dX1_lanesToChoose_32 : decode cX1_lanesToChoose 32 = .ok (.iinc 2 1, 3) := by decide +kernel
theorem dX1_lanesToChoose_35 : decode cX1_lanesToChoose 35 = .ok (.goto (-31), 3) := by decide +kernel
theorem dX1_lanesToChoose_38 : decode cX1_lanesToChoose 38 = .ok (.iload_n 1, 1) := by decide +kernel
theorem dX1_lanesToChoose_39 : decode cX1_lanesToChoose 39 = .ok (.ireturn, 1) := by decide +kernel
theorem dX1_greatestWait_0 : decode cX1_greatestWait 0 = .ok (.iconst 0, 1) := by decide +kernel
theorem dX1_greatestWait_1 : decode cX1_greatestWait 1 = .ok (.istore_n 1, 1) := by decide +kernel
theorem dX1_greatestWait_2 : decode cX1_greatestWait 2 = .ok (.iconst 0, 1) := by decide +kernel
theorem dX1_greatestWait_3 : decode cX1_greatestWait 3 = .ok (.istore_n 2, 1) := by decide +kernel
theorem dX1_greatestWait_4 : decode cX1_greatestWait 4 = .ok (.iload_n 2, 1) := by decide +kernel
theorem dX1_greatestWait_5 : decode cX1_greatestWait 5 = .ok (.aload_n 0, 1) := by decide +kernel
theorem dX1_greatestWait_6 : decode cX1_greatestWait 6 = .ok (.getfield 17, 3) := by decide +kernel
theorem dX1_greatestWait_9 : decode cX1_greatestWait 9 = .ok (.if_icmp .ge 23, 3) := by decide +kernel
theorem dX1_greatestWait_12 : decode cX1_greatestWait 12 = .ok (.iload_n 1, 1) := by decide +kernel
theorem dX1_greatestWait_13 : decode cX1_greatestWait 13 = .ok (.aload_n 0, 1) := by decide +kernel
theorem dX1_greatestWait_14 : decode cX1_greatestWait 14 = .ok (.getfield 11, 3) := by decide +kernel
theorem dX1_greatestWait_17 : decode cX1_greatestWait 17 = .ok (.iload_n 2, 1) := by decide +kernel
theorem dX1_greatestWait_18 : decode cX1_greatestWait 18 = .ok (.aaload, 1) := by decide +kernel
theorem dX1_greatestWait_19 : decode cX1_greatestWait 19 = .ok (.invokevirtual 67, 3) := by decide +kernel
theorem dX1_greatestWait_22 : decode cX1_greatestWait 22 = .ok (.invokestatic 70, 3) := by decide +kernel
theorem dX1_greatestWait_25 : decode cX1_greatestWait 25 = .ok (.istore_n 1, 1) := by decide +kernel
theorem dX1_greatestWait_26 : decode cX1_greatestWait 26 = .ok (.iinc 2 1, 3) := by decide +kernel
theorem dX1_greatestWait_29 : decode cX1_greatestWait 29 = .ok (.goto (-25), 3) := by decide +kernel
theorem dX1_greatestWait_32 : decode cX1_greatestWait 32 = .ok (.iload_n 1, 1) := by decide +kernel
theorem dX1_greatestWait_33 : decode cX1_greatestWait 33 = .ok (.ireturn, 1) := by decide +kernel
theorem dX1_gain_0 : decode cX1_gain 0 = .ok (.aload_n 0, 1) := by decide +kernel
theorem dX1_gain_1 : decode cX1_gain 1 = .ok (.getfield 11, 3) := by decide +kernel
theorem dX1_gain_4 : decode cX1_gain 4 = .ok (.iload_n 1, 1) := by decide +kernel
theorem dX1_gain_5 : decode cX1_gain 5 = .ok (.aaload, 1) := by decide +kernel
theorem dX1_gain_6 : decode cX1_gain 6 = .ok (.getfield 76, 3) := by decide +kernel
theorem dX1_gain_9 : decode cX1_gain 9 = .ok (.iload_n 2, 1) := by decide +kernel
theorem dX1_gain_10 : decode cX1_gain 10 = .ok (.iaload, 1) := by decide +kernel
theorem dX1_gain_11 : decode cX1_gain 11 = .ok (.istore 4, 2) := by decide +kernel
theorem dX1_gain_13 : decode cX1_gain 13 = .ok (.aload_n 0, 1) := by decide +kernel
theorem dX1_gain_14 : decode cX1_gain 14 = .ok (.getfield 11, 3) := by decide +kernel
theorem dX1_gain_17 : decode cX1_gain 17 = .ok (.iload_n 1, 1) := by decide +kernel
theorem dX1_gain_18 : decode cX1_gain 18 = .ok (.aaload, 1) := by decide +kernel
theorem dX1_gain_19 : decode cX1_gain 19 = .ok (.iload_n 2, 1) := by decide +kernel
theorem dX1_gain_20 : decode cX1_gain 20 = .ok (.invokevirtual 80, 3) := by decide +kernel
theorem dX1_gain_23 : decode cX1_gain 23 = .ok (.aload_n 0, 1) := by decide +kernel
theorem dX1_gain_24 : decode cX1_gain 24 = .ok (.getfield 11, 3) := by decide +kernel
theorem dX1_gain_27 : decode cX1_gain 27 = .ok (.iload_n 3, 1) := by decide +kernel
theorem dX1_gain_28 : decode cX1_gain 28 = .ok (.aaload, 1) := by decide +kernel
theorem dX1_gain_29 : decode cX1_gain 29 = .ok (.iload 4, 2) := by decide +kernel
theorem dX1_gain_31 : decode cX1_gain 31 = .ok (.invokevirtual 57, 3) := by decide +kernel
theorem dX1_gain_34 : decode cX1_gain 34 = .ok (.isub, 1) := by decide +kernel
theorem dX1_gain_35 : decode cX1_gain 35 = .ok (.ireturn, 1) := by decide +kernel
theorem dX1_move_0 : decode cX1_move 0 = .ok (.aload_n 0, 1) := by decide +kernel
theorem dX1_move_1 : decode cX1_move 1 = .ok (.iload_n 1, 1) := by decide +kernel
theorem dX1_move_2 : decode cX1_move 2 = .ok (.iload_n 2, 1) := by decide +kernel
theorem dX1_move_3 : decode cX1_move 3 = .ok (.invokevirtual 83, 3) := by decide +kernel
theorem dX1_move_6 : decode cX1_move 6 = .ok (.ifCond .eq 42, 3) := by decide +kernel
theorem dX1_move_9 : decode cX1_move 9 = .ok (.aload_n 0, 1) := by decide +kernel
theorem dX1_move_10 : decode cX1_move 10 = .ok (.iload_n 3, 1) := by decide +kernel
theorem dX1_move_11 : decode cX1_move 11 = .ok (.invokevirtual 32, 3) := by decide +kernel
theorem dX1_move_14 : decode cX1_move 14 = .ok (.ifCond .eq 34, 3) := by decide +kernel
theorem dX1_move_17 : decode cX1_move 17 = .ok (.aload_n 0, 1) := by decide +kernel
theorem dX1_move_18 : decode cX1_move 18 = .ok (.getfield 11, 3) := by decide +kernel
theorem dX1_move_21 : decode cX1_move 21 = .ok (.iload_n 3, 1) := by decide +kernel
theorem dX1_move_22 : decode cX1_move 22 = .ok (.aaload, 1) := by decide +kernel
theorem dX1_move_23 : decode cX1_move 23 = .ok (.invokevirtual 87, 3) := by decide +kernel
theorem dX1_move_26 : decode cX1_move 26 = .ok (.ifCond .eq 22, 3) := by decide +kernel
theorem dX1_move_29 : decode cX1_move 29 = .ok (.aload_n 0, 1) := by decide +kernel
theorem dX1_move_30 : decode cX1_move 30 = .ok (.getfield 11, 3) := by decide +kernel
theorem dX1_move_33 : decode cX1_move 33 = .ok (.iload_n 3, 1) := by decide +kernel
theorem dX1_move_34 : decode cX1_move 34 = .ok (.aaload, 1) := by decide +kernel
theorem dX1_move_35 : decode cX1_move 35 = .ok (.aload_n 0, 1) := by decide +kernel
theorem dX1_move_36 : decode cX1_move 36 = .ok (.getfield 11, 3) := by decide +kernel
theorem dX1_move_39 : decode cX1_move 39 = .ok (.iload_n 1, 1) := by decide +kernel
theorem dX1_move_40 : decode cX1_move 40 = .ok (.aaload, 1) := by decide +kernel
theorem dX1_move_41 : decode cX1_move 41 = .ok (.iload_n 2, 1) := by decide +kernel
theorem dX1_move_42 : decode cX1_move 42 = .ok (.invokevirtual 90, 3) := by decide +kernel
theorem dX1_move_45 : decode cX1_move 45 = .ok (.invokevirtual 93, 3) := by decide +kernel
theorem dX1_move_48 : decode cX1_move 48 = .ok (.return_, 1) := by decide +kernel
theorem dX1_greatestGain_0 : decode cX1_greatestGain 0 = .ok (.bipush (-4), 2) := by decide +kernel
theorem dX1_greatestGain_2 : decode cX1_greatestGain 2 = .ok (.istore_n 2, 1) := by decide +kernel
theorem dX1_greatestGain_3 : decode cX1_greatestGain 3 = .ok (.iload_n 1, 1) := by decide +kernel
theorem dX1_greatestGain_4 : decode cX1_greatestGain 4 = .ok (.istore_n 3, 1) := by decide +kernel
theorem dX1_greatestGain_5 : decode cX1_greatestGain 5 = .ok (.iconst 0, 1) := by decide +kernel
theorem dX1_greatestGain_6 : decode cX1_greatestGain 6 = .ok (.istore 4, 2) := by decide +kernel
theorem dX1_greatestGain_8 : decode cX1_greatestGain 8 = .ok (.iload 4, 2) := by decide +kernel
theorem dX1_greatestGain_10 : decode cX1_greatestGain 10 = .ok (.aload_n 0, 1) := by decide +kernel
theorem dX1_greatestGain_11 : decode cX1_greatestGain 11 = .ok (.getfield 17, 3) := by decide +kernel
theorem dX1_greatestGain_14 : decode cX1_greatestGain 14 = .ok (.if_icmp .ge 75, 3) := by decide +kernel
theorem dX1_greatestGain_17 : decode cX1_greatestGain 17 = .ok (.iconst 1, 1) := by decide +kernel
theorem dX1_greatestGain_18 : decode cX1_greatestGain 18 = .ok (.istore 5, 2) := by decide +kernel
theorem dX1_greatestGain_20 : decode cX1_greatestGain 20 = .ok (.iload 5, 2) := by decide +kernel
theorem dX1_greatestGain_22 : decode cX1_greatestGain 22 = .ok (.aload_n 0, 1) := by decide +kernel
theorem dX1_greatestGain_23 : decode cX1_greatestGain 23 = .ok (.getfield 11, 3) := by decide +kernel
theorem dX1_greatestGain_26 : decode cX1_greatestGain 26 = .ok (.iload 4, 2) := by decide +kernel
theorem dX1_greatestGain_28 : decode cX1_greatestGain 28 = .ok (.aaload, 1) := by decide +kernel
theorem dX1_greatestGain_29 : decode cX1_greatestGain 29 = .ok (.getfield 36, 3) := by decide +kernel
theorem dX1_greatestGain_32 : decode cX1_greatestGain 32 = .ok (.if_icmp .ge 51, 3) := by decide +kernel
theorem dX1_greatestGain_35 : decode cX1_greatestGain 35 = .ok (.aload_n 0, 1) := by decide +kernel
theorem dX1_greatestGain_36 : decode cX1_greatestGain 36 = .ok (.iload 4, 2) := by decide +kernel
theorem dX1_greatestGain_38 : decode cX1_greatestGain 38 = .ok (.iload 5, 2) := by decide +kernel
theorem dX1_greatestGain_40 : decode cX1_greatestGain 40 = .ok (.iload_n 3, 1) := by decide +kernel
theorem dX1_greatestGain_41 : decode cX1_greatestGain 41 = .ok (.invokevirtual 97, 3) := by decide +kernel
theorem dX1_greatestGain_44 : decode cX1_greatestGain 44 = .ok (.istore 6, 2) := by decide +kernel
theorem dX1_greatestGain_46 : decode cX1_greatestGain 46 = .ok (.iload 6, 2) := by decide +kernel
theorem dX1_greatestGain_48 : decode cX1_greatestGain 48 = .ok (.ifCond .lt 29, 3) := by decide +kernel
theorem dX1_greatestGain_51 : decode cX1_greatestGain 51 = .ok (.aload_n 0, 1) := by decide +kernel
theorem dX1_greatestGain_52 : decode cX1_greatestGain 52 = .ok (.iload 4, 2) := by decide +kernel
theorem dX1_greatestGain_54 : decode cX1_greatestGain 54 = .ok (.iload 5, 2) := by decide +kernel
theorem dX1_greatestGain_56 : decode cX1_greatestGain 56 = .ok (.iload 6, 2) := by decide +kernel
theorem dX1_greatestGain_58 : decode cX1_greatestGain 58 = .ok (.invokevirtual 101, 3) := by decide +kernel
theorem dX1_greatestGain_61 : decode cX1_greatestGain 61 = .ok (.istore_n 3, 1) := by decide +kernel
theorem dX1_greatestGain_62 : decode cX1_greatestGain 62 = .ok (.bipush 100, 2) := by decide +kernel
theorem dX1_greatestGain_64 : decode cX1_greatestGain 64 = .ok (.iload 4, 2) := by decide +kernel
theorem dX1_greatestGain_66 : decode cX1_greatestGain 66 = .ok (.imul, 1) := by decide +kernel
theorem dX1_greatestGain_67 : decode cX1_greatestGain 67 = .ok (.bipush 10, 2) := by decide +kernel
theorem dX1_greatestGain_69 : decode cX1_greatestGain 69 = .ok (.iload 5, 2) := by decide +kernel
theorem dX1_greatestGain_71 : decode cX1_greatestGain 71 = .ok (.imul, 1) := by decide +kernel
theorem dX1_greatestGain_72 : decode cX1_greatestGain 72 = .ok (.iadd, 1) := by decide +kernel
theorem dX1_greatestGain_73 : decode cX1_greatestGain 73 = .ok (.iload 6, 2) := by decide +kernel
theorem dX1_greatestGain_75 : decode cX1_greatestGain 75 = .ok (.iadd, 1) := by decide +kernel
theorem dX1_greatestGain_76 : decode cX1_greatestGain 76 = .ok (.istore_n 2, 1) := by decide +kernel
theorem dX1_greatestGain_77 : decode cX1_greatestGain 77 = .ok (.iinc 5 1, 3) := by decide +kernel
theorem dX1_greatestGain_80 : decode cX1_greatestGain 80 = .ok (.goto (-60), 3) := by decide +kernel
theorem dX1_greatestGain_83 : decode cX1_greatestGain 83 = .ok (.iinc 4 1, 3) := by decide +kernel
theorem dX1_greatestGain_86 : decode cX1_greatestGain 86 = .ok (.goto (-78), 3) := by decide +kernel
theorem dX1_greatestGain_89 : decode cX1_greatestGain 89 = .ok (.iload_n 2, 1) := by decide +kernel
theorem dX1_greatestGain_90 : decode cX1_greatestGain 90 = .ok (.ireturn, 1) := by decide +kernel
theorem dX1_bestChange_0 : decode cX1_bestChange 0 = .ok (.bipush (-4), 2) := by decide +kernel
theorem dX1_bestChange_2 : decode cX1_bestChange 2 = .ok (.istore 4, 2) := by decide +kernel
theorem dX1_bestChange_4 : decode cX1_bestChange 4 = .ok (.iload_n 3, 1) := by decide +kernel
theorem dX1_bestChange_5 : decode cX1_bestChange 5 = .ok (.istore 5, 2) := by decide +kernel
theorem dX1_bestChange_7 : decode cX1_bestChange 7 = .ok (.iconst 0, 1) := by decide +kernel
theorem dX1_bestChange_8 : decode cX1_bestChange 8 = .ok (.istore 6, 2) := by decide +kernel
theorem dX1_bestChange_10 : decode cX1_bestChange 10 = .ok (.iload 6, 2) := by decide +kernel
theorem dX1_bestChange_12 : decode cX1_bestChange 12 = .ok (.aload_n 0, 1) := by decide +kernel
theorem dX1_bestChange_13 : decode cX1_bestChange 13 = .ok (.getfield 17, 3) := by decide +kernel
theorem dX1_bestChange_16 : decode cX1_bestChange 16 = .ok (.if_icmp .ge 53, 3) := by decide +kernel
theorem dX1_bestChange_19 : decode cX1_bestChange 19 = .ok (.aload_n 0, 1) := by decide +kernel
theorem dX1_bestChange_20 : decode cX1_bestChange 20 = .ok (.iload_n 1, 1) := by decide +kernel
theorem dX1_bestChange_21 : decode cX1_bestChange 21 = .ok (.iload_n 2, 1) := by decide +kernel
theorem dX1_bestChange_22 : decode cX1_bestChange 22 = .ok (.iload 6, 2) := by decide +kernel
theorem dX1_bestChange_24 : decode cX1_bestChange 24 = .ok (.invokevirtual 101, 3) := by decide +kernel
theorem dX1_bestChange_27 : decode cX1_bestChange 27 = .ok (.istore 7, 2) := by decide +kernel
theorem dX1_bestChange_29 : decode cX1_bestChange 29 = .ok (.iload 6, 2) := by decide +kernel
theorem dX1_bestChange_31 : decode cX1_bestChange 31 = .ok (.iload_n 1, 1) := by decide +kernel
theorem dX1_bestChange_32 : decode cX1_bestChange 32 = .ok (.if_icmp .eq 31, 3) := by decide +kernel
theorem dX1_bestChange_35 : decode cX1_bestChange 35 = .ok (.aload_n 0, 1) := by decide +kernel
theorem dX1_bestChange_36 : decode cX1_bestChange 36 = .ok (.getfield 11, 3) := by decide +kernel
theorem dX1_bestChange_39 : decode cX1_bestChange 39 = .ok (.iload 6, 2) := by decide +kernel
theorem dX1_bestChange_41 : decode cX1_bestChange 41 = .ok (.aaload, 1) := by decide +kernel
theorem dX1_bestChange_42 : decode cX1_bestChange 42 = .ok (.invokevirtual 54, 3) := by decide +kernel
theorem dX1_bestChange_45 : decode cX1_bestChange 45 = .ok (.ifCond .eq 18, 3) := by decide +kernel
theorem dX1_bestChange_48 : decode cX1_bestChange 48 = .ok (.iload 7, 2) := by decide +kernel
theorem dX1_bestChange_50 : decode cX1_bestChange 50 = .ok (.iload 5, 2) := by decide +kernel
theorem dX1_bestChange_52 : decode cX1_bestChange 52 = .ok (.if_icmp .le 11, 3) := by decide +kernel
theorem dX1_bestChange_55 : decode cX1_bestChange 55 = .ok (.iload 7, 2) := by decide +kernel
theorem dX1_bestChange_57 : decode cX1_bestChange 57 = .ok (.istore 5, 2) := by decide +kernel
theorem dX1_bestChange_59 : decode cX1_bestChange 59 = .ok (.iload 6, 2) := by decide +kernel
theorem dX1_bestChange_61 : decode cX1_bestChange 61 = .ok (.istore 4, 2) := by decide +kernel
theorem dX1_bestChange_63 : decode cX1_bestChange 63 = .ok (.iinc 6 1, 3) := by decide +kernel
theorem dX1_bestChange_66 : decode cX1_bestChange 66 = .ok (.goto (-56), 3) := by decide +kernel
theorem dX1_bestChange_69 : decode cX1_bestChange 69 = .ok (.iload 4, 2) := by decide +kernel
theorem dX1_bestChange_71 : decode cX1_bestChange 71 = .ok (.ireturn, 1) := by decide +kernel
theorem dX2_minutesFor_0 : decode cX2_minutesFor 0 = .ok (.iload_n 2, 1) := by decide +kernel
theorem dX2_minutesFor_1 : decode cX2_minutesFor 1 = .ok (.invokestatic 9, 3) := by decide +kernel
theorem dX2_minutesFor_4 : decode cX2_minutesFor 4 = .ok (.istore_n 3, 1) := by decide +kernel
theorem dX2_minutesFor_5 : decode cX2_minutesFor 5 = .ok (.iload_n 3, 1) := by decide +kernel
theorem dX2_minutesFor_6 : decode cX2_minutesFor 6 = .ok (.iconst 1, 1) := by decide +kernel
theorem dX2_minutesFor_7 : decode cX2_minutesFor 7 = .ok (.isub, 1) := by decide +kernel
theorem dX2_minutesFor_8 : decode cX2_minutesFor 8 = .ok (.istore 4, 2) := by decide +kernel
theorem dX2_minutesFor_10 : decode cX2_minutesFor 10 = .ok (.iconst 2, 1) := by decide +kernel
theorem dX2_minutesFor_11 : decode cX2_minutesFor 11 = .ok (.iload_n 3, 1) := by decide +kernel
theorem dX2_minutesFor_12 : decode cX2_minutesFor 12 = .ok (.imul, 1) := by decide +kernel
theorem dX2_minutesFor_13 : decode cX2_minutesFor 13 = .ok (.istore 5, 2) := by decide +kernel
theorem dX2_minutesFor_15 : decode cX2_minutesFor 15 = .ok (.iload_n 0, 1) := by decide +kernel
theorem dX2_minutesFor_16 : decode cX2_minutesFor 16 = .ok (.tableswitch 81 1 7 #[44, 47, 50, 81, 65, 70, 77], 44) := by decide +kernel
theorem dX2_minutesFor_60 : decode cX2_minutesFor 60 = .ok (.iload 4, 2) := by decide +kernel
theorem dX2_minutesFor_62 : decode cX2_minutesFor 62 = .ok (.ireturn, 1) := by decide +kernel
theorem dX2_minutesFor_63 : decode cX2_minutesFor 63 = .ok (.iload 5, 2) := by decide +kernel
theorem dX2_minutesFor_65 : decode cX2_minutesFor 65 = .ok (.ireturn, 1) := by decide +kernel
theorem dX2_minutesFor_66 : decode cX2_minutesFor 66 = .ok (.iload_n 2, 1) := by decide +kernel
theorem dX2_minutesFor_67 : decode cX2_minutesFor 67 = .ok (.iconst 3, 1) := by decide +kernel
theorem dX2_minutesFor_68 : decode cX2_minutesFor 68 = .ok (.if_icmp .ne 10, 3) := by decide +kernel
theorem dX2_minutesFor_71 : decode cX2_minutesFor 71 = .ok (.iload 5, 2) := by decide +kernel
theorem dX2_minutesFor_73 : decode cX2_minutesFor 73 = .ok (.iload_n 1, 1) := by decide +kernel
theorem dX2_minutesFor_74 : decode cX2_minutesFor 74 = .ok (.iadd, 1) := by decide +kernel
theorem dX2_minutesFor_75 : decode cX2_minutesFor 75 = .ok (.goto 5, 3) := by decide +kernel
theorem dX2_minutesFor_78 : decode cX2_minutesFor 78 = .ok (.iload 5, 2) := by decide +kernel
theorem dX2_minutesFor_80 : decode cX2_minutesFor 80 = .ok (.ireturn, 1) := by decide +kernel
theorem dX2_minutesFor_81 : decode cX2_minutesFor 81 = .ok (.iload 5, 2) := by decide +kernel
theorem dX2_minutesFor_83 : decode cX2_minutesFor 83 = .ok (.iconst 1, 1) := by decide +kernel
theorem dX2_minutesFor_84 : decode cX2_minutesFor 84 = .ok (.iadd, 1) := by decide +kernel
theorem dX2_minutesFor_85 : decode cX2_minutesFor 85 = .ok (.ireturn, 1) := by decide +kernel
theorem dX2_minutesFor_86 : decode cX2_minutesFor 86 = .ok (.iload 4, 2) := by decide +kernel
theorem dX2_minutesFor_88 : decode cX2_minutesFor 88 = .ok (.iconst 1, 1) := by decide +kernel
theorem dX2_minutesFor_89 : decode cX2_minutesFor 89 = .ok (.iadd, 1) := by decide +kernel
theorem dX2_minutesFor_90 : decode cX2_minutesFor 90 = .ok (.iconst 2, 1) := by decide +kernel
theorem dX2_minutesFor_91 : decode cX2_minutesFor 91 = .ok (.idiv, 1) := by decide +kernel
theorem dX2_minutesFor_92 : decode cX2_minutesFor 92 = .ok (.ireturn, 1) := by decide +kernel
theorem dX2_minutesFor_93 : decode cX2_minutesFor 93 = .ok (.iload_n 3, 1) := by decide +kernel
theorem dX2_minutesFor_94 : decode cX2_minutesFor 94 = .ok (.iload_n 1, 1) := by decide +kernel
theorem dX2_minutesFor_95 : decode cX2_minutesFor 95 = .ok (.iadd, 1) := by decide +kernel
theorem dX2_minutesFor_96 : decode cX2_minutesFor 96 = .ok (.ireturn, 1) := by decide +kernel
theorem dX2_minutesFor_97 : decode cX2_minutesFor 97 = .ok (.iload_n 3, 1) := by decide +kernel
theorem dX2_minutesFor_98 : decode cX2_minutesFor 98 = .ok (.ireturn, 1) := by decide +kernel
theorem dX2_laneMinutes_0 : decode cX2_laneMinutes 0 = .ok (.iload_n 0, 1) := by decide +kernel
theorem dX2_laneMinutes_1 : decode cX2_laneMinutes 1 = .ok (.tableswitch 33 0 2 #[27, 29, 31], 27) := by decide +kernel
theorem dX2_laneMinutes_28 : decode cX2_laneMinutes 28 = .ok (.iconst 2, 1) := by decide +kernel
theorem dX2_laneMinutes_29 : decode cX2_laneMinutes 29 = .ok (.ireturn, 1) := by decide +kernel
theorem dX2_laneMinutes_30 : decode cX2_laneMinutes 30 = .ok (.iconst 3, 1) := by decide +kernel
theorem dX2_laneMinutes_31 : decode cX2_laneMinutes 31 = .ok (.ireturn, 1) := by decide +kernel
theorem dX2_laneMinutes_32 : decode cX2_laneMinutes 32 = .ok (.iconst 5, 1) := by decide +kernel
theorem dX2_laneMinutes_33 : decode cX2_laneMinutes 33 = .ok (.ireturn, 1) := by decide +kernel
theorem dX2_laneMinutes_34 : decode cX2_laneMinutes 34 = .ok (.bipush 8, 2) := by decide +kernel
theorem dX2_laneMinutes_36 : decode cX2_laneMinutes 36 = .ok (.ireturn, 1) := by decide +kernel
theorem dX2_seenOf_0 : decode cX2_seenOf 0 = .ok (.iconst 0, 1) := by decide +kernel
theorem dX2_seenOf_1 : decode cX2_seenOf 1 = .ok (.iload_n 2, 1) := by decide +kernel
theorem dX2_seenOf_2 : decode cX2_seenOf 2 = .ok (.iconst 1, 1) := by decide +kernel
theorem dX2_seenOf_3 : decode cX2_seenOf 3 = .ok (.isub, 1) := by decide +kernel
theorem dX2_seenOf_4 : decode cX2_seenOf 4 = .ok (.invokestatic 15, 3) := by decide +kernel
theorem dX2_seenOf_7 : decode cX2_seenOf 7 = .ok (.istore_n 3, 1) := by decide +kernel
theorem dX2_seenOf_8 : decode cX2_seenOf 8 = .ok (.iload_n 0, 1) := by decide +kernel
theorem dX2_seenOf_9 : decode cX2_seenOf 9 = .ok (.tableswitch 59 2 7 #[39, 41, 43, 49, 59, 53], 39) := by decide +kernel
theorem dX2_seenOf_48 : decode cX2_seenOf 48 = .ok (.iload_n 3, 1) := by decide +kernel
theorem dX2_seenOf_49 : decode cX2_seenOf 49 = .ok (.ireturn, 1) := by decide +kernel
theorem dX2_seenOf_50 : decode cX2_seenOf 50 = .ok (.iload_n 3, 1) := by decide +kernel
theorem dX2_seenOf_51 : decode cX2_seenOf 51 = .ok (.ireturn, 1) := by decide +kernel
theorem dX2_seenOf_52 : decode cX2_seenOf 52 = .ok (.iload_n 2, 1) := by decide +kernel
theorem dX2_seenOf_53 : decode cX2_seenOf 53 = .ok (.iload_n 1, 1) := by decide +kernel
theorem dX2_seenOf_54 : decode cX2_seenOf 54 = .ok (.invokestatic 21, 3) := by decide +kernel
theorem dX2_seenOf_57 : decode cX2_seenOf 57 = .ok (.ireturn, 1) := by decide +kernel
theorem dX2_seenOf_58 : decode cX2_seenOf 58 = .ok (.iload_n 3, 1) := by decide +kernel
theorem dX2_seenOf_59 : decode cX2_seenOf 59 = .ok (.iconst 2, 1) := by decide +kernel
theorem dX2_seenOf_60 : decode cX2_seenOf 60 = .ok (.idiv, 1) := by decide +kernel
theorem dX2_seenOf_61 : decode cX2_seenOf 61 = .ok (.ireturn, 1) := by decide +kernel
theorem dX2_seenOf_62 : decode cX2_seenOf 62 = .ok (.iload_n 2, 1) := by decide +kernel
theorem dX2_seenOf_63 : decode cX2_seenOf 63 = .ok (.iconst 1, 1) := by decide +kernel
theorem dX2_seenOf_64 : decode cX2_seenOf 64 = .ok (.iadd, 1) := by decide +kernel
theorem dX2_seenOf_65 : decode cX2_seenOf 65 = .ok (.iconst 2, 1) := by decide +kernel
theorem dX2_seenOf_66 : decode cX2_seenOf 66 = .ok (.idiv, 1) := by decide +kernel
theorem dX2_seenOf_67 : decode cX2_seenOf 67 = .ok (.ireturn, 1) := by decide +kernel
theorem dX2_seenOf_68 : decode cX2_seenOf 68 = .ok (.iload_n 2, 1) := by decide +kernel
theorem dX2_seenOf_69 : decode cX2_seenOf 69 = .ok (.ireturn, 1) := by decide +kernel
theorem dX2_letsIn_0 : decode cX2_letsIn 0 = .ok (.iload_n 0, 1) := by decide +kernel
theorem dX2_letsIn_1 : decode cX2_letsIn 1 = .ok (.iconst 5, 1) := by decide +kernel
theorem dX2_letsIn_2 : decode cX2_letsIn 2 = .ok (.if_icmp .ne 8, 3) := by decide +kernel
theorem dX2_letsIn_5 : decode cX2_letsIn 5 = .ok (.iload_n 2, 1) := by decide +kernel
theorem dX2_letsIn_6 : decode cX2_letsIn 6 = .ok (.iload_n 1, 1) := by decide +kernel
theorem dX2_letsIn_7 : decode cX2_letsIn 7 = .ok (.if_icmp .ge 7, 3) := by decide +kernel
theorem dX2_letsIn_10 : decode cX2_letsIn 10 = .ok (.iconst 1, 1) := by decide +kernel
theorem dX2_letsIn_11 : decode cX2_letsIn 11 = .ok (.goto 4, 3) := by decide +kernel
theorem dX2_letsIn_14 : decode cX2_letsIn 14 = .ok (.iconst 0, 1) := by decide +kernel
theorem dX2_letsIn_15 : decode cX2_letsIn 15 = .ok (.ireturn, 1) := by decide +kernel
theorem dX2_toPay_0 : decode cX2_toPay 0 = .ok (.iconst 4, 1) := by decide +kernel
theorem dX2_toPay_1 : decode cX2_toPay 1 = .ok (.istore_n 2, 1) := by decide +kernel
theorem dX2_toPay_2 : decode cX2_toPay 2 = .ok (.iload_n 2, 1) := by decide +kernel
theorem dX2_toPay_3 : decode cX2_toPay 3 = .ok (.iload_n 1, 1) := by decide +kernel
theorem dX2_toPay_4 : decode cX2_toPay 4 = .ok (.iadd, 1) := by decide +kernel
theorem dX2_toPay_5 : decode cX2_toPay 5 = .ok (.istore_n 3, 1) := by decide +kernel
theorem dX2_toPay_6 : decode cX2_toPay 6 = .ok (.iload_n 2, 1) := by decide +kernel
theorem dX2_toPay_7 : decode cX2_toPay 7 = .ok (.iconst 2, 1) := by decide +kernel
theorem dX2_toPay_8 : decode cX2_toPay 8 = .ok (.isub, 1) := by decide +kernel
theorem dX2_toPay_9 : decode cX2_toPay 9 = .ok (.istore 4, 2) := by decide +kernel
theorem dX2_toPay_11 : decode cX2_toPay 11 = .ok (.iload_n 0, 1) := by decide +kernel
theorem dX2_toPay_12 : decode cX2_toPay 12 = .ok (.tableswitch 67 1 7 #[44, 46, 49, 67, 54, 59, 63], 44) := by decide +kernel
theorem dX2_toPay_56 : decode cX2_toPay 56 = .ok (.iload_n 3, 1) := by decide +kernel
theorem dX2_toPay_57 : decode cX2_toPay 57 = .ok (.ireturn, 1) := by decide +kernel
theorem dX2_toPay_58 : decode cX2_toPay 58 = .ok (.iload 4, 2) := by decide +kernel
theorem dX2_toPay_60 : decode cX2_toPay 60 = .ok (.ireturn, 1) := by decide +kernel
theorem dX2_toPay_61 : decode cX2_toPay 61 = .ok (.iconst 3, 1) := by decide +kernel
theorem dX2_toPay_62 : decode cX2_toPay 62 = .ok (.iload 4, 2) := by decide +kernel
theorem dX2_toPay_64 : decode cX2_toPay 64 = .ok (.imul, 1) := by decide +kernel
theorem dX2_toPay_65 : decode cX2_toPay 65 = .ok (.ireturn, 1) := by decide +kernel
theorem dX2_toPay_66 : decode cX2_toPay 66 = .ok (.iload 4, 2) := by decide +kernel
theorem dX2_toPay_68 : decode cX2_toPay 68 = .ok (.iconst 5, 1) := by decide +kernel
theorem dX2_toPay_69 : decode cX2_toPay 69 = .ok (.iadd, 1) := by decide +kernel
theorem dX2_toPay_70 : decode cX2_toPay 70 = .ok (.ireturn, 1) := by decide +kernel
theorem dX2_toPay_71 : decode cX2_toPay 71 = .ok (.iconst 2, 1) := by decide +kernel
theorem dX2_toPay_72 : decode cX2_toPay 72 = .ok (.iload_n 3, 1) := by decide +kernel
theorem dX2_toPay_73 : decode cX2_toPay 73 = .ok (.imul, 1) := by decide +kernel
theorem dX2_toPay_74 : decode cX2_toPay 74 = .ok (.ireturn, 1) := by decide +kernel
theorem dX2_toPay_75 : decode cX2_toPay 75 = .ok (.iload_n 2, 1) := by decide +kernel
theorem dX2_toPay_76 : decode cX2_toPay 76 = .ok (.iload_n 1, 1) := by decide +kernel
theorem dX2_toPay_77 : decode cX2_toPay 77 = .ok (.isub, 1) := by decide +kernel
theorem dX2_toPay_78 : decode cX2_toPay 78 = .ok (.ireturn, 1) := by decide +kernel
theorem dX2_toPay_79 : decode cX2_toPay 79 = .ok (.iload_n 2, 1) := by decide +kernel
theorem dX2_toPay_80 : decode cX2_toPay 80 = .ok (.ireturn, 1) := by decide +kernel
theorem dX2_fail_0 : decode cX2_fail 0 = .ok (.iload_n 0, 1) := by decide +kernel
theorem dX2_fail_1 : decode cX2_fail 1 = .ok (.bipush 7, 2) := by decide +kernel
theorem dX2_fail_3 : decode cX2_fail 3 = .ok (.if_icmp .eq 7, 3) := by decide +kernel
theorem dX2_fail_6 : decode cX2_fail 6 = .ok (.iload_n 1, 1) := by decide +kernel
theorem dX2_fail_7 : decode cX2_fail 7 = .ok (.ifCond .ne 4, 3) := by decide +kernel
theorem dX2_fail_10 : decode cX2_fail 10 = .ok (.return_, 1) := by decide +kernel
theorem dX2_fail_11 : decode cX2_fail 11 = .ok (.iload_n 0, 1) := by decide +kernel
theorem dX2_fail_12 : decode cX2_fail 12 = .ok (.iconst 3, 1) := by decide +kernel
theorem dX2_fail_13 : decode cX2_fail 13 = .ok (.if_icmp .ne 13, 3) := by decide +kernel
theorem dX2_fail_16 : decode cX2_fail 16 = .ok (.new 24, 3) := by decide +kernel
theorem dX2_fail_19 : decode cX2_fail 19 = .ok (.dup, 1) := by decide +kernel
theorem dX2_fail_20 : decode cX2_fail 20 = .ok (.ldc 26, 2) := by decide +kernel
theorem dX2_fail_22 : decode cX2_fail 22 = .ok (.invokespecial 28, 3) := by decide +kernel
theorem dX2_fail_25 : decode cX2_fail 25 = .ok (.athrow, 1) := by decide +kernel
theorem dX2_fail_26 : decode cX2_fail 26 = .ok (.iload_n 0, 1) := by decide +kernel
theorem dX2_fail_27 : decode cX2_fail 27 = .ok (.bipush 6, 2) := by decide +kernel
theorem dX2_fail_29 : decode cX2_fail 29 = .ok (.if_icmp .ne 13, 3) := by decide +kernel
theorem dX2_fail_32 : decode cX2_fail 32 = .ok (.new 31, 3) := by decide +kernel
theorem dX2_fail_35 : decode cX2_fail 35 = .ok (.dup, 1) := by decide +kernel
theorem dX2_fail_36 : decode cX2_fail 36 = .ok (.ldc 33, 2) := by decide +kernel
theorem dX2_fail_38 : decode cX2_fail 38 = .ok (.invokespecial 35, 3) := by decide +kernel
theorem dX2_fail_41 : decode cX2_fail 41 = .ok (.athrow, 1) := by decide +kernel
theorem dX2_fail_42 : decode cX2_fail 42 = .ok (.new 36, 3) := by decide +kernel
theorem dX2_fail_45 : decode cX2_fail 45 = .ok (.dup, 1) := by decide +kernel
theorem dX2_fail_46 : decode cX2_fail 46 = .ok (.ldc 38, 2) := by decide +kernel
theorem dX2_fail_48 : decode cX2_fail 48 = .ok (.invokespecial 40, 3) := by decide +kernel
theorem dX2_fail_51 : decode cX2_fail 51 = .ok (.athrow, 1) := by decide +kernel
theorem dX3_init_0 : decode cX3_init 0 = .ok (.aload_n 0, 1) := by decide +kernel
theorem dX3_init_1 : decode cX3_init 1 = .ok (.invokespecial 3, 3) := by decide +kernel
theorem dX3_init_4 : decode cX3_init 4 = .ok (.aload_n 0, 1) := by decide +kernel
theorem dX3_init_5 : decode cX3_init 5 = .ok (.iconst 0, 1) := by decide +kernel
theorem dX3_init_6 : decode cX3_init 6 = .ok (.putfield 9, 3) := by decide +kernel
theorem dX3_init_9 : decode cX3_init 9 = .ok (.aload_n 0, 1) := by decide +kernel
theorem dX3_init_10 : decode cX3_init 10 = .ok (.iconst 0, 1) := by decide +kernel
theorem dX3_init_11 : decode cX3_init 11 = .ok (.putfield 15, 3) := by decide +kernel
theorem dX3_init_14 : decode cX3_init 14 = .ok (.aload_n 0, 1) := by decide +kernel
theorem dX3_init_15 : decode cX3_init 15 = .ok (.iconst 0, 1) := by decide +kernel
theorem dX3_init_16 : decode cX3_init 16 = .ok (.putfield 18, 3) := by decide +kernel
theorem dX3_init_19 : decode cX3_init 19 = .ok (.aload_n 0, 1) := by decide +kernel
theorem dX3_init_20 : decode cX3_init 20 = .ok (.iconst 0, 1) := by decide +kernel
theorem dX3_init_21 : decode cX3_init 21 = .ok (.putfield 21, 3) := by decide +kernel
theorem dX3_init_24 : decode cX3_init 24 = .ok (.aload_n 0, 1) := by decide +kernel
theorem dX3_init_25 : decode cX3_init 25 = .ok (.iconst 0, 1) := by decide +kernel
theorem dX3_init_26 : decode cX3_init 26 = .ok (.putfield 24, 3) := by decide +kernel
theorem dX3_init_29 : decode cX3_init 29 = .ok (.aload_n 0, 1) := by decide +kernel
theorem dX3_init_30 : decode cX3_init 30 = .ok (.bipush 8, 2) := by decide +kernel
theorem dX3_init_32 : decode cX3_init 32 = .ok (.newarray .int, 2) := by decide +kernel
theorem dX3_init_34 : decode cX3_init 34 = .ok (.putfield 27, 3) := by decide +kernel
theorem dX3_init_37 : decode cX3_init 37 = .ok (.aload_n 0, 1) := by decide +kernel
theorem dX3_init_38 : decode cX3_init 38 = .ok (.iconst 4, 1) := by decide +kernel
theorem dX3_init_39 : decode cX3_init 39 = .ok (.newarray .int, 2) := by decide +kernel
theorem dX3_init_41 : decode cX3_init 41 = .ok (.putfield 31, 3) := by decide +kernel
theorem dX3_init_44 : decode cX3_init 44 = .ok (.return_, 1) := by decide +kernel
theorem dX3_begin_0 : decode cX3_begin 0 = .ok (.aload_n 0, 1) := by decide +kernel
theorem dX3_begin_1 : decode cX3_begin 1 = .ok (.iload_n 1, 1) := by decide +kernel
theorem dX3_begin_2 : decode cX3_begin 2 = .ok (.putfield 9, 3) := by decide +kernel
theorem dX3_begin_5 : decode cX3_begin 5 = .ok (.aload_n 0, 1) := by decide +kernel
theorem dX3_begin_6 : decode cX3_begin 6 = .ok (.iload_n 2, 1) := by decide +kernel
theorem dX3_begin_7 : decode cX3_begin 7 = .ok (.putfield 15, 3) := by decide +kernel
theorem dX3_begin_10 : decode cX3_begin 10 = .ok (.aload_n 0, 1) := by decide +kernel
theorem dX3_begin_11 : decode cX3_begin 11 = .ok (.iconst 0, 1) := by decide +kernel
theorem dX3_begin_12 : decode cX3_begin 12 = .ok (.putfield 18, 3) := by decide +kernel
theorem dX3_begin_15 : decode cX3_begin 15 = .ok (.aload_n 0, 1) := by decide +kernel
theorem dX3_begin_16 : decode cX3_begin 16 = .ok (.iconst 0, 1) := by decide +kernel
theorem dX3_begin_17 : decode cX3_begin 17 = .ok (.putfield 21, 3) := by decide +kernel
theorem dX3_begin_20 : decode cX3_begin 20 = .ok (.aload_n 0, 1) := by decide +kernel
theorem dX3_begin_21 : decode cX3_begin 21 = .ok (.iconst 0, 1) := by decide +kernel
theorem dX3_begin_22 : decode cX3_begin 22 = .ok (.putfield 24, 3) := by decide +kernel
theorem dX3_begin_25 : decode cX3_begin 25 = .ok (.iconst 0, 1) := by decide +kernel
theorem dX3_begin_26 : decode cX3_begin 26 = .ok (.istore_n 3, 1) := by decide +kernel
theorem dX3_begin_27 : decode cX3_begin 27 = .ok (.iload_n 3, 1) := by decide +kernel
theorem dX3_begin_28 : decode cX3_begin 28 = .ok (.iconst 4, 1) := by decide +kernel
theorem dX3_begin_29 : decode cX3_begin 29 = .ok (.if_icmp .ge 21, 3) := by decide +kernel
theorem dX3_begin_32 : decode cX3_begin 32 = .ok (.aload_n 0, 1) := by decide +kernel
theorem dX3_begin_33 : decode cX3_begin 33 = .ok (.getfield 31, 3) := by decide +kernel
theorem dX3_begin_36 : decode cX3_begin 36 = .ok (.iload_n 3, 1) := by decide +kernel
theorem dX3_begin_37 : decode cX3_begin 37 = .ok (.iload_n 1, 1) := by decide +kernel
theorem dX3_begin_38 : decode cX3_begin 38 = .ok (.iload_n 2, 1) := by decide +kernel
theorem dX3_begin_39 : decode cX3_begin 39 = .ok (.iload_n 3, 1) := by decide +kernel
theorem dX3_begin_40 : decode cX3_begin 40 = .ok (.invokestatic 34, 3) := by decide +kernel
theorem dX3_begin_43 : decode cX3_begin 43 = .ok (.iastore, 1) := by decide +kernel
theorem dX3_begin_44 : decode cX3_begin 44 = .ok (.iinc 3 1, 3) := by decide +kernel
theorem dX3_begin_47 : decode cX3_begin 47 = .ok (.goto (-20), 3) := by decide +kernel
theorem dX3_begin_50 : decode cX3_begin 50 = .ok (.return_, 1) := by decide +kernel
theorem dX3_becomeLike_0 : decode cX3_becomeLike 0 = .ok (.aload_n 0, 1) := by decide +kernel
theorem dX3_becomeLike_1 : decode cX3_becomeLike 1 = .ok (.aload_n 1, 1) := by decide +kernel
theorem dX3_becomeLike_2 : decode cX3_becomeLike 2 = .ok (.getfield 9, 3) := by decide +kernel
theorem dX3_becomeLike_5 : decode cX3_becomeLike 5 = .ok (.putfield 9, 3) := by decide +kernel
theorem dX3_becomeLike_8 : decode cX3_becomeLike 8 = .ok (.aload_n 0, 1) := by decide +kernel
theorem dX3_becomeLike_9 : decode cX3_becomeLike 9 = .ok (.aload_n 1, 1) := by decide +kernel
theorem dX3_becomeLike_10 : decode cX3_becomeLike 10 = .ok (.getfield 15, 3) := by decide +kernel
theorem dX3_becomeLike_13 : decode cX3_becomeLike 13 = .ok (.putfield 15, 3) := by decide +kernel
theorem dX3_becomeLike_16 : decode cX3_becomeLike 16 = .ok (.aload_n 0, 1) := by decide +kernel
theorem dX3_becomeLike_17 : decode cX3_becomeLike 17 = .ok (.aload_n 1, 1) := by decide +kernel
theorem dX3_becomeLike_18 : decode cX3_becomeLike 18 = .ok (.getfield 18, 3) := by decide +kernel
theorem dX3_becomeLike_21 : decode cX3_becomeLike 21 = .ok (.putfield 18, 3) := by decide +kernel
theorem dX3_becomeLike_24 : decode cX3_becomeLike 24 = .ok (.aload_n 0, 1) := by decide +kernel
theorem dX3_becomeLike_25 : decode cX3_becomeLike 25 = .ok (.aload_n 1, 1) := by decide +kernel
theorem dX3_becomeLike_26 : decode cX3_becomeLike 26 = .ok (.getfield 21, 3) := by decide +kernel
theorem dX3_becomeLike_29 : decode cX3_becomeLike 29 = .ok (.putfield 21, 3) := by decide +kernel
theorem dX3_becomeLike_32 : decode cX3_becomeLike 32 = .ok (.aload_n 0, 1) := by decide +kernel
theorem dX3_becomeLike_33 : decode cX3_becomeLike 33 = .ok (.aload_n 1, 1) := by decide +kernel
theorem dX3_becomeLike_34 : decode cX3_becomeLike 34 = .ok (.getfield 24, 3) := by decide +kernel
theorem dX3_becomeLike_37 : decode cX3_becomeLike 37 = .ok (.putfield 24, 3) := by decide +kernel
theorem dX3_becomeLike_40 : decode cX3_becomeLike 40 = .ok (.aload_n 1, 1) := by decide +kernel
theorem dX3_becomeLike_41 : decode cX3_becomeLike 41 = .ok (.getfield 27, 3) := by decide +kernel
theorem dX3_becomeLike_44 : decode cX3_becomeLike 44 = .ok (.iconst 0, 1) := by decide +kernel
theorem dX3_becomeLike_45 : decode cX3_becomeLike 45 = .ok (.aload_n 0, 1) := by decide +kernel
theorem dX3_becomeLike_46 : decode cX3_becomeLike 46 = .ok (.getfield 27, 3) := by decide +kernel
theorem dX3_becomeLike_49 : decode cX3_becomeLike 49 = .ok (.iconst 0, 1) := by decide +kernel
theorem dX3_becomeLike_50 : decode cX3_becomeLike 50 = .ok (.bipush 8, 2) := by decide +kernel
theorem dX3_becomeLike_52 : decode cX3_becomeLike 52 = .ok (.invokestatic 40, 3) := by decide +kernel
theorem dX3_becomeLike_55 : decode cX3_becomeLike 55 = .ok (.aload_n 1, 1) := by decide +kernel
theorem dX3_becomeLike_56 : decode cX3_becomeLike 56 = .ok (.getfield 31, 3) := by decide +kernel
theorem dX3_becomeLike_59 : decode cX3_becomeLike 59 = .ok (.iconst 0, 1) := by decide +kernel
theorem dX3_becomeLike_60 : decode cX3_becomeLike 60 = .ok (.aload_n 0, 1) := by decide +kernel
theorem dX3_becomeLike_61 : decode cX3_becomeLike 61 = .ok (.getfield 31, 3) := by decide +kernel
theorem dX3_becomeLike_64 : decode cX3_becomeLike 64 = .ok (.iconst 0, 1) := by decide +kernel
theorem dX3_becomeLike_65 : decode cX3_becomeLike 65 = .ok (.iconst 4, 1) := by decide +kernel
theorem dX3_becomeLike_66 : decode cX3_becomeLike 66 = .ok (.invokestatic 40, 3) := by decide +kernel
theorem dX3_becomeLike_69 : decode cX3_becomeLike 69 = .ok (.return_, 1) := by decide +kernel
theorem dX3_needs_0 : decode cX3_needs 0 = .ok (.iload_n 1, 1) := by decide +kernel
theorem dX3_needs_1 : decode cX3_needs 1 = .ok (.ifCond .lt 17, 3) := by decide +kernel
theorem dX3_needs_4 : decode cX3_needs 4 = .ok (.iload_n 1, 1) := by decide +kernel
theorem dX3_needs_5 : decode cX3_needs 5 = .ok (.iconst 4, 1) := by decide +kernel
theorem dX3_needs_6 : decode cX3_needs 6 = .ok (.if_icmp .ge 12, 3) := by decide +kernel
theorem dX3_needs_9 : decode cX3_needs 9 = .ok (.aload_n 0, 1) := by decide +kernel
theorem dX3_needs_10 : decode cX3_needs 10 = .ok (.getfield 31, 3) := by decide +kernel
theorem dX3_needs_13 : decode cX3_needs 13 = .ok (.iload_n 1, 1) := by decide +kernel
theorem dX3_needs_14 : decode cX3_needs 14 = .ok (.iaload, 1) := by decide +kernel
theorem dX3_needs_15 : decode cX3_needs 15 = .ok (.goto 4, 3) := by decide +kernel
theorem dX3_needs_18 : decode cX3_needs 18 = .ok (.iconst 0, 1) := by decide +kernel
theorem dX3_needs_19 : decode cX3_needs 19 = .ok (.ireturn, 1) := by decide +kernel
theorem dX3_hasRoom_0 : decode cX3_hasRoom 0 = .ok (.aload_n 0, 1) := by decide +kernel
theorem dX3_hasRoom_1 : decode cX3_hasRoom 1 = .ok (.getfield 18, 3) := by decide +kernel
theorem dX3_hasRoom_4 : decode cX3_hasRoom 4 = .ok (.bipush 8, 2) := by decide +kernel
theorem dX3_hasRoom_6 : decode cX3_hasRoom 6 = .ok (.if_icmp .ge 7, 3) := by decide +kernel
theorem dX3_hasRoom_9 : decode cX3_hasRoom 9 = .ok (.iconst 1, 1) := by decide +kernel
theorem dX3_hasRoom_10 : decode cX3_hasRoom 10 = .ok (.goto 4, 3) := by decide +kernel
theorem dX3_hasRoom_13 : decode cX3_hasRoom 13 = .ok (.iconst 0, 1) := by decide +kernel
theorem dX3_hasRoom_14 : decode cX3_hasRoom 14 = .ok (.ireturn, 1) := by decide +kernel
theorem dX3_isOpen_0 : decode cX3_isOpen 0 = .ok (.aload_n 0, 1) := by decide +kernel
theorem dX3_isOpen_1 : decode cX3_isOpen 1 = .ok (.getfield 9, 3) := by decide +kernel
theorem dX3_isOpen_4 : decode cX3_isOpen 4 = .ok (.aload_n 0, 1) := by decide +kernel
theorem dX3_isOpen_5 : decode cX3_isOpen 5 = .ok (.getfield 15, 3) := by decide +kernel
theorem dX3_isOpen_8 : decode cX3_isOpen 8 = .ok (.aload_n 0, 1) := by decide +kernel
theorem dX3_isOpen_9 : decode cX3_isOpen 9 = .ok (.getfield 18, 3) := by decide +kernel
theorem dX3_isOpen_12 : decode cX3_isOpen 12 = .ok (.invokestatic 46, 3) := by decide +kernel
theorem dX3_isOpen_15 : decode cX3_isOpen 15 = .ok (.ireturn, 1) := by decide +kernel
theorem dX3_mayBeChosen_0 : decode cX3_mayBeChosen 0 = .ok (.aload_n 0, 1) := by decide +kernel
theorem dX3_mayBeChosen_1 : decode cX3_mayBeChosen 1 = .ok (.invokevirtual 50, 3) := by decide +kernel
theorem dX3_mayBeChosen_4 : decode cX3_mayBeChosen 4 = .ok (.ifCond .eq 14, 3) := by decide +kernel
theorem dX3_mayBeChosen_7 : decode cX3_mayBeChosen 7 = .ok (.aload_n 0, 1) := by decide +kernel
theorem dX3_mayBeChosen_8 : decode cX3_mayBeChosen 8 = .ok (.invokevirtual 54, 3) := by decide +kernel
theorem dX3_mayBeChosen_11 : decode cX3_mayBeChosen 11 = .ok (.ifCond .eq 7, 3) := by decide +kernel
theorem dX3_mayBeChosen_14 : decode cX3_mayBeChosen 14 = .ok (.iconst 1, 1) := by decide +kernel
theorem dX3_mayBeChosen_15 : decode cX3_mayBeChosen 15 = .ok (.goto 4, 3) := by decide +kernel
theorem dX3_mayBeChosen_18 : decode cX3_mayBeChosen 18 = .ok (.iconst 0, 1) := by decide +kernel
theorem dX3_mayBeChosen_19 : decode cX3_mayBeChosen 19 = .ok (.ireturn, 1) := by decide +kernel
theorem dX3_seenCars_0 : decode cX3_seenCars 0 = .ok (.aload_n 0, 1) := by decide +kernel
theorem dX3_seenCars_1 : decode cX3_seenCars 1 = .ok (.getfield 9, 3) := by decide +kernel
theorem dX3_seenCars_4 : decode cX3_seenCars 4 = .ok (.aload_n 0, 1) := by decide +kernel
theorem dX3_seenCars_5 : decode cX3_seenCars 5 = .ok (.getfield 15, 3) := by decide +kernel
theorem dX3_seenCars_8 : decode cX3_seenCars 8 = .ok (.aload_n 0, 1) := by decide +kernel
theorem dX3_seenCars_9 : decode cX3_seenCars 9 = .ok (.getfield 18, 3) := by decide +kernel
theorem dX3_seenCars_12 : decode cX3_seenCars 12 = .ok (.invokestatic 57, 3) := by decide +kernel
theorem dX3_seenCars_15 : decode cX3_seenCars 15 = .ok (.ireturn, 1) := by decide +kernel
theorem dX3_seemsNow_0 : decode cX3_seemsNow 0 = .ok (.aload_n 0, 1) := by decide +kernel
theorem dX3_seemsNow_1 : decode cX3_seemsNow 1 = .ok (.invokevirtual 60, 3) := by decide +kernel
theorem dX3_seemsNow_4 : decode cX3_seemsNow 4 = .ok (.aload_n 0, 1) := by decide +kernel
theorem dX3_seemsNow_5 : decode cX3_seemsNow 5 = .ok (.getfield 18, 3) := by decide +kernel
theorem dX3_seemsNow_8 : decode cX3_seemsNow 8 = .ok (.invokestatic 64, 3) := by decide +kernel
theorem dX3_seemsNow_11 : decode cX3_seemsNow 11 = .ok (.istore_n 1, 1) := by decide +kernel
theorem dX3_seemsNow_12 : decode cX3_seemsNow 12 = .ok (.iconst 0, 1) := by decide +kernel
theorem dX3_seemsNow_13 : decode cX3_seemsNow 13 = .ok (.istore_n 2, 1) := by decide +kernel
theorem dX3_seemsNow_14 : decode cX3_seemsNow 14 = .ok (.iconst 0, 1) := by decide +kernel
theorem dX3_seemsNow_15 : decode cX3_seemsNow 15 = .ok (.istore_n 3, 1) := by decide +kernel
theorem dX3_seemsNow_16 : decode cX3_seemsNow 16 = .ok (.iload_n 3, 1) := by decide +kernel
theorem dX3_seemsNow_17 : decode cX3_seemsNow 17 = .ok (.iload_n 1, 1) := by decide +kernel
theorem dX3_seemsNow_18 : decode cX3_seemsNow 18 = .ok (.if_icmp .ge 21, 3) := by decide +kernel
theorem dX3_seemsNow_21 : decode cX3_seemsNow 21 = .ok (.iload_n 2, 1) := by decide +kernel
