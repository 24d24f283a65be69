theorem dX5_firstFree_15 : decode cX5_firstFree 15 = .ok (.aload_n 0, 1) := by decide +kernel
theorem dX5_firstFree_16 : decode cX5_firstFree 16 = .ok (.getfield 32, 3) := by decide +kernel
theorem dX5_firstFree_19 : decode cX5_firstFree 19 = .ok (.iload_n 2, 1) := by decide +kernel
theorem dX5_firstFree_20 : decode cX5_firstFree 20 = .ok (.iaload, 1) := by decide +kernel
theorem dX5_firstFree_21 : decode cX5_firstFree 21 = .ok (.aload_n 0, 1) := by decide +kernel
theorem dX5_firstFree_22 : decode cX5_firstFree 22 = .ok (.getfield 32, 3) := by decide +kernel
theorem dX5_firstFree_25 : decode cX5_firstFree 25 = .ok (.iload_n 1, 1) := by decide +kernel
theorem dX5_firstFree_26 : decode cX5_firstFree 26 = .ok (.iaload, 1) := by decide +kernel
theorem dX5_firstFree_27 : decode cX5_firstFree 27 = .ok (.if_icmp .ge 5, 3) := by decide +kernel
theorem dX5_firstFree_30 : decode cX5_firstFree 30 = .ok (.iload_n 2, 1) := by decide +kernel
theorem dX5_firstFree_31 : decode cX5_firstFree 31 = .ok (.istore_n 1, 1) := by decide +kernel
theorem dX5_firstFree_32 : decode cX5_firstFree 32 = .ok (.iinc 2 1, 3) := by decide +kernel
theorem dX5_firstFree_35 : decode cX5_firstFree 35 = .ok (.goto (-31), 3) := by decide +kernel
theorem dX5_firstFree_38 : decode cX5_firstFree 38 = .ok (.iload_n 1, 1) := by decide +kernel
theorem dX5_firstFree_39 : decode cX5_firstFree 39 = .ok (.ireturn, 1) := by decide +kernel
theorem dX5_partedSum_0 : decode cX5_partedSum 0 = .ok (.aload_n 0, 1) := by decide +kernel
theorem dX5_partedSum_1 : decode cX5_partedSum 1 = .ok (.invokevirtual 196, 3) := by decide +kernel
theorem dX5_partedSum_4 : decode cX5_partedSum 4 = .ok (.istore 4, 2) := by decide +kernel
theorem dX5_partedSum_6 : decode cX5_partedSum 6 = .ok (.iload_n 1, 1) := by decide +kernel
theorem dX5_partedSum_7 : decode cX5_partedSum 7 = .ok (.istore 5, 2) := by decide +kernel
theorem dX5_partedSum_9 : decode cX5_partedSum 9 = .ok (.iconst 0, 1) := by decide +kernel
theorem dX5_partedSum_10 : decode cX5_partedSum 10 = .ok (.istore 6, 2) := by decide +kernel
theorem dX5_partedSum_12 : decode cX5_partedSum 12 = .ok (.iload 6, 2) := by decide +kernel
theorem dX5_partedSum_14 : decode cX5_partedSum 14 = .ok (.iload_n 2, 1) := by decide +kernel
theorem dX5_partedSum_15 : decode cX5_partedSum 15 = .ok (.if_icmp .ge 44, 3) := by decide +kernel
theorem dX5_partedSum_18 : decode cX5_partedSum 18 = .ok (.iload_n 3, 1) := by decide +kernel
theorem dX5_partedSum_19 : decode cX5_partedSum 19 = .ok (.ifCond .le 40, 3) := by decide +kernel
theorem dX5_partedSum_22 : decode cX5_partedSum 22 = .ok (.iload 4, 2) := by decide +kernel
theorem dX5_partedSum_24 : decode cX5_partedSum 24 = .ok (.aload_n 0, 1) := by decide +kernel
theorem dX5_partedSum_25 : decode cX5_partedSum 25 = .ok (.aload_n 0, 1) := by decide +kernel
theorem dX5_partedSum_26 : decode cX5_partedSum 26 = .ok (.getfield 39, 3) := by decide +kernel
theorem dX5_partedSum_29 : decode cX5_partedSum 29 = .ok (.iload 5, 2) := by decide +kernel
theorem dX5_partedSum_31 : decode cX5_partedSum 31 = .ok (.iload_n 3, 1) := by decide +kernel
theorem dX5_partedSum_32 : decode cX5_partedSum 32 = .ok (.irem, 1) := by decide +kernel
theorem dX5_partedSum_33 : decode cX5_partedSum 33 = .ok (.iaload, 1) := by decide +kernel
theorem dX5_partedSum_34 : decode cX5_partedSum 34 = .ok (.aload_n 0, 1) := by decide +kernel
theorem dX5_partedSum_35 : decode cX5_partedSum 35 = .ok (.getfield 36, 3) := by decide +kernel
theorem dX5_partedSum_38 : decode cX5_partedSum 38 = .ok (.iload 6, 2) := by decide +kernel
theorem dX5_partedSum_40 : decode cX5_partedSum 40 = .ok (.iaload, 1) := by decide +kernel
theorem dX5_partedSum_41 : decode cX5_partedSum 41 = .ok (.invokevirtual 202, 3) := by decide +kernel
theorem dX5_partedSum_44 : decode cX5_partedSum 44 = .ok (.iadd, 1) := by decide +kernel
theorem dX5_partedSum_45 : decode cX5_partedSum 45 = .ok (.istore 4, 2) := by decide +kernel
theorem dX5_partedSum_47 : decode cX5_partedSum 47 = .ok (.iload 5, 2) := by decide +kernel
theorem dX5_partedSum_49 : decode cX5_partedSum 49 = .ok (.iload_n 3, 1) := by decide +kernel
theorem dX5_partedSum_50 : decode cX5_partedSum 50 = .ok (.idiv, 1) := by decide +kernel
theorem dX5_partedSum_51 : decode cX5_partedSum 51 = .ok (.istore 5, 2) := by decide +kernel
theorem dX5_partedSum_53 : decode cX5_partedSum 53 = .ok (.iinc 6 1, 3) := by decide +kernel
theorem dX5_partedSum_56 : decode cX5_partedSum 56 = .ok (.goto (-44), 3) := by decide +kernel
theorem dX5_partedSum_59 : decode cX5_partedSum 59 = .ok (.iload 4, 2) := by decide +kernel
theorem dX5_partedSum_61 : decode cX5_partedSum 61 = .ok (.ireturn, 1) := by decide +kernel
theorem dX5_toldSum_0 : decode cX5_toldSum 0 = .ok (.aload_n 0, 1) := by decide +kernel
theorem dX5_toldSum_1 : decode cX5_toldSum 1 = .ok (.iload_n 1, 1) := by decide +kernel
theorem dX5_toldSum_2 : decode cX5_toldSum 2 = .ok (.invokevirtual 337, 3) := by decide +kernel
theorem dX5_toldSum_5 : decode cX5_toldSum 5 = .ok (.iconst 0, 1) := by decide +kernel
theorem dX5_toldSum_6 : decode cX5_toldSum 6 = .ok (.istore_n 3, 1) := by decide +kernel
theorem dX5_toldSum_7 : decode cX5_toldSum 7 = .ok (.iload_n 3, 1) := by decide +kernel
theorem dX5_toldSum_8 : decode cX5_toldSum 8 = .ok (.aload_n 0, 1) := by decide +kernel
theorem dX5_toldSum_9 : decode cX5_toldSum 9 = .ok (.getfield 10, 3) := by decide +kernel
theorem dX5_toldSum_12 : decode cX5_toldSum 12 = .ok (.getfield 193, 3) := by decide +kernel
theorem dX5_toldSum_15 : decode cX5_toldSum 15 = .ok (.if_icmp .ge 16, 3) := by decide +kernel
theorem dX5_toldSum_18 : decode cX5_toldSum 18 = .ok (.aload_n 0, 1) := by decide +kernel
theorem dX5_toldSum_19 : decode cX5_toldSum 19 = .ok (.getfield 32, 3) := by decide +kernel
theorem dX5_toldSum_22 : decode cX5_toldSum 22 = .ok (.iload_n 3, 1) := by decide +kernel
theorem dX5_toldSum_23 : decode cX5_toldSum 23 = .ok (.iconst 0, 1) := by decide +kernel
theorem dX5_toldSum_24 : decode cX5_toldSum 24 = .ok (.iastore, 1) := by decide +kernel
theorem dX5_toldSum_25 : decode cX5_toldSum 25 = .ok (.iinc 3 1, 3) := by decide +kernel
theorem dX5_toldSum_28 : decode cX5_toldSum 28 = .ok (.goto (-21), 3) := by decide +kernel
theorem dX5_toldSum_31 : decode cX5_toldSum 31 = .ok (.iconst 0, 1) := by decide +kernel
theorem dX5_toldSum_32 : decode cX5_toldSum 32 = .ok (.istore_n 3, 1) := by decide +kernel
theorem dX5_toldSum_33 : decode cX5_toldSum 33 = .ok (.iconst 0, 1) := by decide +kernel
theorem dX5_toldSum_34 : decode cX5_toldSum 34 = .ok (.istore 4, 2) := by decide +kernel
theorem dX5_toldSum_36 : decode cX5_toldSum 36 = .ok (.iload 4, 2) := by decide +kernel
theorem dX5_toldSum_38 : decode cX5_toldSum 38 = .ok (.aload_n 2, 1) := by decide +kernel
theorem dX5_toldSum_39 : decode cX5_toldSum 39 = .ok (.getfield 63, 3) := by decide +kernel
theorem dX5_toldSum_42 : decode cX5_toldSum 42 = .ok (.if_icmp .ge 34, 3) := by decide +kernel
theorem dX5_toldSum_45 : decode cX5_toldSum 45 = .ok (.aload_n 2, 1) := by decide +kernel
theorem dX5_toldSum_46 : decode cX5_toldSum 46 = .ok (.getfield 67, 3) := by decide +kernel
theorem dX5_toldSum_49 : decode cX5_toldSum 49 = .ok (.iload 4, 2) := by decide +kernel
theorem dX5_toldSum_51 : decode cX5_toldSum 51 = .ok (.iaload, 1) := by decide +kernel
theorem dX5_toldSum_52 : decode cX5_toldSum 52 = .ok (.istore 5, 2) := by decide +kernel
theorem dX5_toldSum_54 : decode cX5_toldSum 54 = .ok (.iload_n 3, 1) := by decide +kernel
theorem dX5_toldSum_55 : decode cX5_toldSum 55 = .ok (.aload_n 0, 1) := by decide +kernel
theorem dX5_toldSum_56 : decode cX5_toldSum 56 = .ok (.aload_n 0, 1) := by decide +kernel
theorem dX5_toldSum_57 : decode cX5_toldSum 57 = .ok (.getfield 42, 3) := by decide +kernel
theorem dX5_toldSum_60 : decode cX5_toldSum 60 = .ok (.iload 5, 2) := by decide +kernel
theorem dX5_toldSum_62 : decode cX5_toldSum 62 = .ok (.iaload, 1) := by decide +kernel
theorem dX5_toldSum_63 : decode cX5_toldSum 63 = .ok (.iload 5, 2) := by decide +kernel
theorem dX5_toldSum_65 : decode cX5_toldSum 65 = .ok (.invokevirtual 202, 3) := by decide +kernel
theorem dX5_toldSum_68 : decode cX5_toldSum 68 = .ok (.iadd, 1) := by decide +kernel
theorem dX5_toldSum_69 : decode cX5_toldSum 69 = .ok (.istore_n 3, 1) := by decide +kernel
theorem dX5_toldSum_70 : decode cX5_toldSum 70 = .ok (.iinc 4 1, 3) := by decide +kernel
theorem dX5_toldSum_73 : decode cX5_toldSum 73 = .ok (.goto (-37), 3) := by decide +kernel
theorem dX5_toldSum_76 : decode cX5_toldSum 76 = .ok (.iload_n 3, 1) := by decide +kernel
theorem dX5_toldSum_77 : decode cX5_toldSum 77 = .ok (.ireturn, 1) := by decide +kernel
theorem dX5_tell_0 : decode cX5_tell 0 = .ok (.iload_n 1, 1) := by decide +kernel
theorem dX5_tell_1 : decode cX5_tell 1 = .ok (.istore_n 2, 1) := by decide +kernel
theorem dX5_tell_2 : decode cX5_tell 2 = .ok (.iconst 0, 1) := by decide +kernel
theorem dX5_tell_3 : decode cX5_tell 3 = .ok (.istore_n 3, 1) := by decide +kernel
theorem dX5_tell_4 : decode cX5_tell 4 = .ok (.iload_n 3, 1) := by decide +kernel
theorem dX5_tell_5 : decode cX5_tell 5 = .ok (.iconst 4, 1) := by decide +kernel
theorem dX5_tell_6 : decode cX5_tell 6 = .ok (.if_icmp .ge 44, 3) := by decide +kernel
theorem dX5_tell_9 : decode cX5_tell 9 = .ok (.aload_n 0, 1) := by decide +kernel
theorem dX5_tell_10 : decode cX5_tell 10 = .ok (.getfield 10, 3) := by decide +kernel
theorem dX5_tell_13 : decode cX5_tell 13 = .ok (.getfield 193, 3) := by decide +kernel
theorem dX5_tell_16 : decode cX5_tell 16 = .ok (.ifCond .le 34, 3) := by decide +kernel
theorem dX5_tell_19 : decode cX5_tell 19 = .ok (.aload_n 0, 1) := by decide +kernel
theorem dX5_tell_20 : decode cX5_tell 20 = .ok (.getfield 42, 3) := by decide +kernel
theorem dX5_tell_23 : decode cX5_tell 23 = .ok (.iload_n 3, 1) := by decide +kernel
theorem dX5_tell_24 : decode cX5_tell 24 = .ok (.iload_n 2, 1) := by decide +kernel
theorem dX5_tell_25 : decode cX5_tell 25 = .ok (.aload_n 0, 1) := by decide +kernel
theorem dX5_tell_26 : decode cX5_tell 26 = .ok (.getfield 10, 3) := by decide +kernel
theorem dX5_tell_29 : decode cX5_tell 29 = .ok (.getfield 193, 3) := by decide +kernel
theorem dX5_tell_32 : decode cX5_tell 32 = .ok (.irem, 1) := by decide +kernel
theorem dX5_tell_33 : decode cX5_tell 33 = .ok (.iastore, 1) := by decide +kernel
theorem dX5_tell_34 : decode cX5_tell 34 = .ok (.iload_n 2, 1) := by decide +kernel
theorem dX5_tell_35 : decode cX5_tell 35 = .ok (.aload_n 0, 1) := by decide +kernel
theorem dX5_tell_36 : decode cX5_tell 36 = .ok (.getfield 10, 3) := by decide +kernel
theorem dX5_tell_39 : decode cX5_tell 39 = .ok (.getfield 193, 3) := by decide +kernel
theorem dX5_tell_42 : decode cX5_tell 42 = .ok (.idiv, 1) := by decide +kernel
theorem dX5_tell_43 : decode cX5_tell 43 = .ok (.istore_n 2, 1) := by decide +kernel
theorem dX5_tell_44 : decode cX5_tell 44 = .ok (.iinc 3 1, 3) := by decide +kernel
theorem dX5_tell_47 : decode cX5_tell 47 = .ok (.goto (-43), 3) := by decide +kernel
theorem dX5_tell_50 : decode cX5_tell 50 = .ok (.return_, 1) := by decide +kernel
theorem dX5_asDigits_0 : decode cX5_asDigits 0 = .ok (.aload_n 0, 1) := by decide +kernel
theorem dX5_asDigits_1 : decode cX5_asDigits 1 = .ok (.iload_n 1, 1) := by decide +kernel
theorem dX5_asDigits_2 : decode cX5_asDigits 2 = .ok (.invokevirtual 337, 3) := by decide +kernel
theorem dX5_asDigits_5 : decode cX5_asDigits 5 = .ok (.iconst 0, 1) := by decide +kernel
theorem dX5_asDigits_6 : decode cX5_asDigits 6 = .ok (.istore_n 2, 1) := by decide +kernel
theorem dX5_asDigits_7 : decode cX5_asDigits 7 = .ok (.iconst 3, 1) := by decide +kernel
theorem dX5_asDigits_8 : decode cX5_asDigits 8 = .ok (.istore_n 3, 1) := by decide +kernel
theorem dX5_asDigits_9 : decode cX5_asDigits 9 = .ok (.iload_n 3, 1) := by decide +kernel
theorem dX5_asDigits_10 : decode cX5_asDigits 10 = .ok (.ifCond .lt 21, 3) := by decide +kernel
theorem dX5_asDigits_13 : decode cX5_asDigits 13 = .ok (.bipush 10, 2) := by decide +kernel
theorem dX5_asDigits_15 : decode cX5_asDigits 15 = .ok (.iload_n 2, 1) := by decide +kernel
theorem dX5_asDigits_16 : decode cX5_asDigits 16 = .ok (.imul, 1) := by decide +kernel
theorem dX5_asDigits_17 : decode cX5_asDigits 17 = .ok (.aload_n 0, 1) := by decide +kernel
theorem dX5_asDigits_18 : decode cX5_asDigits 18 = .ok (.getfield 42, 3) := by decide +kernel
theorem dX5_asDigits_21 : decode cX5_asDigits 21 = .ok (.iload_n 3, 1) := by decide +kernel
theorem dX5_asDigits_22 : decode cX5_asDigits 22 = .ok (.iaload, 1) := by decide +kernel
theorem dX5_asDigits_23 : decode cX5_asDigits 23 = .ok (.iadd, 1) := by decide +kernel
theorem dX5_asDigits_24 : decode cX5_asDigits 24 = .ok (.istore_n 2, 1) := by decide +kernel
theorem dX5_asDigits_25 : decode cX5_asDigits 25 = .ok (.iinc 3 (-1), 3) := by decide +kernel
theorem dX5_asDigits_28 : decode cX5_asDigits 28 = .ok (.goto (-19), 3) := by decide +kernel
theorem dX5_asDigits_31 : decode cX5_asDigits 31 = .ok (.iload_n 2, 1) := by decide +kernel
theorem dX5_asDigits_32 : decode cX5_asDigits 32 = .ok (.ireturn, 1) := by decide +kernel
theorem dX5_power_0 : decode cX5_power 0 = .ok (.iconst 1, 1) := by decide +kernel
theorem dX5_power_1 : decode cX5_power 1 = .ok (.istore_n 2, 1) := by decide +kernel
theorem dX5_power_2 : decode cX5_power 2 = .ok (.iconst 0, 1) := by decide +kernel
theorem dX5_power_3 : decode cX5_power 3 = .ok (.istore_n 3, 1) := by decide +kernel
theorem dX5_power_4 : decode cX5_power 4 = .ok (.iload_n 3, 1) := by decide +kernel
theorem dX5_power_5 : decode cX5_power 5 = .ok (.iload_n 1, 1) := by decide +kernel
theorem dX5_power_6 : decode cX5_power 6 = .ok (.if_icmp .ge 13, 3) := by decide +kernel
theorem dX5_power_9 : decode cX5_power 9 = .ok (.iload_n 2, 1) := by decide +kernel
theorem dX5_power_10 : decode cX5_power 10 = .ok (.iload_n 0, 1) := by decide +kernel
theorem dX5_power_11 : decode cX5_power 11 = .ok (.imul, 1) := by decide +kernel
theorem dX5_power_12 : decode cX5_power 12 = .ok (.istore_n 2, 1) := by decide +kernel
theorem dX5_power_13 : decode cX5_power 13 = .ok (.iinc 3 1, 3) := by decide +kernel
theorem dX5_power_16 : decode cX5_power 16 = .ok (.goto (-12), 3) := by decide +kernel
theorem dX5_power_19 : decode cX5_power 19 = .ok (.iload_n 2, 1) := by decide +kernel
theorem dX5_power_20 : decode cX5_power 20 = .ok (.ireturn, 1) := by decide +kernel
theorem dX5_swingFrom_0 : decode cX5_swingFrom 0 = .ok (.aload_n 0, 1) := by decide +kernel
theorem dX5_swingFrom_1 : decode cX5_swingFrom 1 = .ok (.getfield 45, 3) := by decide +kernel
theorem dX5_swingFrom_4 : decode cX5_swingFrom 4 = .ok (.iconst 0, 1) := by decide +kernel
theorem dX5_swingFrom_5 : decode cX5_swingFrom 5 = .ok (.iload_n 1, 1) := by decide +kernel
theorem dX5_swingFrom_6 : decode cX5_swingFrom 6 = .ok (.iastore, 1) := by decide +kernel
theorem dX5_swingFrom_7 : decode cX5_swingFrom 7 = .ok (.iconst 1, 1) := by decide +kernel
theorem dX5_swingFrom_8 : decode cX5_swingFrom 8 = .ok (.istore 4, 2) := by decide +kernel
theorem dX5_swingFrom_10 : decode cX5_swingFrom 10 = .ok (.iload 4, 2) := by decide +kernel
theorem dX5_swingFrom_12 : decode cX5_swingFrom 12 = .ok (.bipush 60, 2) := by decide +kernel
theorem dX5_swingFrom_14 : decode cX5_swingFrom 14 = .ok (.if_icmp .gt 68, 3) := by decide +kernel
theorem dX5_swingFrom_17 : decode cX5_swingFrom 17 = .ok (.aload_n 0, 1) := by decide +kernel
theorem dX5_swingFrom_18 : decode cX5_swingFrom 18 = .ok (.getfield 45, 3) := by decide +kernel
theorem dX5_swingFrom_21 : decode cX5_swingFrom 21 = .ok (.iconst 0, 1) := by decide +kernel
theorem dX5_swingFrom_22 : decode cX5_swingFrom 22 = .ok (.iload 4, 2) := by decide +kernel
theorem dX5_swingFrom_24 : decode cX5_swingFrom 24 = .ok (.iconst 1, 1) := by decide +kernel
theorem dX5_swingFrom_25 : decode cX5_swingFrom 25 = .ok (.isub, 1) := by decide +kernel
theorem dX5_swingFrom_26 : decode cX5_swingFrom 26 = .ok (.iload_n 2, 1) := by decide +kernel
theorem dX5_swingFrom_27 : decode cX5_swingFrom 27 = .ok (.isub, 1) := by decide +kernel
theorem dX5_swingFrom_28 : decode cX5_swingFrom 28 = .ok (.invokestatic 340, 3) := by decide +kernel
theorem dX5_swingFrom_31 : decode cX5_swingFrom 31 = .ok (.iaload, 1) := by decide +kernel
theorem dX5_swingFrom_32 : decode cX5_swingFrom 32 = .ok (.istore 5, 2) := by decide +kernel
theorem dX5_swingFrom_34 : decode cX5_swingFrom 34 = .ok (.aload_n 0, 1) := by decide +kernel
theorem dX5_swingFrom_35 : decode cX5_swingFrom 35 = .ok (.getfield 45, 3) := by decide +kernel
theorem dX5_swingFrom_38 : decode cX5_swingFrom 38 = .ok (.iload 4, 2) := by decide +kernel
theorem dX5_swingFrom_40 : decode cX5_swingFrom 40 = .ok (.iconst 1, 1) := by decide +kernel
theorem dX5_swingFrom_41 : decode cX5_swingFrom 41 = .ok (.isub, 1) := by decide +kernel
theorem dX5_swingFrom_42 : decode cX5_swingFrom 42 = .ok (.iaload, 1) := by decide +kernel
theorem dX5_swingFrom_43 : decode cX5_swingFrom 43 = .ok (.iconst 2, 1) := by decide +kernel
theorem dX5_swingFrom_44 : decode cX5_swingFrom 44 = .ok (.iload 5, 2) := by decide +kernel
theorem dX5_swingFrom_46 : decode cX5_swingFrom 46 = .ok (.iload_n 3, 1) := by decide +kernel
theorem dX5_swingFrom_47 : decode cX5_swingFrom 47 = .ok (.imul, 1) := by decide +kernel
theorem dX5_swingFrom_48 : decode cX5_swingFrom 48 = .ok (.bipush 10, 2) := by decide +kernel
theorem dX5_swingFrom_50 : decode cX5_swingFrom 50 = .ok (.idiv, 1) := by decide +kernel
theorem dX5_swingFrom_51 : decode cX5_swingFrom 51 = .ok (.imul, 1) := by decide +kernel
theorem dX5_swingFrom_52 : decode cX5_swingFrom 52 = .ok (.isub, 1) := by decide +kernel
theorem dX5_swingFrom_53 : decode cX5_swingFrom 53 = .ok (.istore 6, 2) := by decide +kernel
theorem dX5_swingFrom_55 : decode cX5_swingFrom 55 = .ok (.aload_n 0, 1) := by decide +kernel
theorem dX5_swingFrom_56 : decode cX5_swingFrom 56 = .ok (.getfield 45, 3) := by decide +kernel
theorem dX5_swingFrom_59 : decode cX5_swingFrom 59 = .ok (.iload 4, 2) := by decide +kernel
theorem dX5_swingFrom_61 : decode cX5_swingFrom 61 = .ok (.sipush (-9999), 3) := by decide +kernel
theorem dX5_swingFrom_64 : decode cX5_swingFrom 64 = .ok (.sipush 9999, 3) := by decide +kernel
theorem dX5_swingFrom_67 : decode cX5_swingFrom 67 = .ok (.iload 6, 2) := by decide +kernel
theorem dX5_swingFrom_69 : decode cX5_swingFrom 69 = .ok (.invokestatic 188, 3) := by decide +kernel
theorem dX5_swingFrom_72 : decode cX5_swingFrom 72 = .ok (.invokestatic 340, 3) := by decide +kernel
theorem dX5_swingFrom_75 : decode cX5_swingFrom 75 = .ok (.iastore, 1) := by decide +kernel
theorem dX5_swingFrom_76 : decode cX5_swingFrom 76 = .ok (.iinc 4 1, 3) := by decide +kernel
theorem dX5_swingFrom_79 : decode cX5_swingFrom 79 = .ok (.goto (-69), 3) := by decide +kernel
theorem dX5_swingFrom_82 : decode cX5_swingFrom 82 = .ok (.return_, 1) := by decide +kernel
theorem dX5_widestSwing_0 : decode cX5_widestSwing 0 = .ok (.iconst 0, 1) := by decide +kernel
theorem dX5_widestSwing_1 : decode cX5_widestSwing 1 = .ok (.istore_n 3, 1) := by decide +kernel
theorem dX5_widestSwing_2 : decode cX5_widestSwing 2 = .ok (.iload_n 1, 1) := by decide +kernel
theorem dX5_widestSwing_3 : decode cX5_widestSwing 3 = .ok (.istore 4, 2) := by decide +kernel
theorem dX5_widestSwing_5 : decode cX5_widestSwing 5 = .ok (.iload 4, 2) := by decide +kernel
theorem dX5_widestSwing_7 : decode cX5_widestSwing 7 = .ok (.iload_n 2, 1) := by decide +kernel
theorem dX5_widestSwing_8 : decode cX5_widestSwing 8 = .ok (.if_icmp .gt 24, 3) := by decide +kernel
theorem dX5_widestSwing_11 : decode cX5_widestSwing 11 = .ok (.iload_n 3, 1) := by decide +kernel
theorem dX5_widestSwing_12 : decode cX5_widestSwing 12 = .ok (.aload_n 0, 1) := by decide +kernel
theorem dX5_widestSwing_13 : decode cX5_widestSwing 13 = .ok (.getfield 45, 3) := by decide +kernel
theorem dX5_widestSwing_16 : decode cX5_widestSwing 16 = .ok (.iload 4, 2) := by decide +kernel
theorem dX5_widestSwing_18 : decode cX5_widestSwing 18 = .ok (.iaload, 1) := by decide +kernel
theorem dX5_widestSwing_19 : decode cX5_widestSwing 19 = .ok (.invokestatic 343, 3) := by decide +kernel
theorem dX5_widestSwing_22 : decode cX5_widestSwing 22 = .ok (.invokestatic 340, 3) := by decide +kernel
theorem dX5_widestSwing_25 : decode cX5_widestSwing 25 = .ok (.istore_n 3, 1) := by decide +kernel
theorem dX5_widestSwing_26 : decode cX5_widestSwing 26 = .ok (.iinc 4 1, 3) := by decide +kernel
theorem dX5_widestSwing_29 : decode cX5_widestSwing 29 = .ok (.goto (-24), 3) := by decide +kernel
theorem dX5_widestSwing_32 : decode cX5_widestSwing 32 = .ok (.iload_n 3, 1) := by decide +kernel
theorem dX5_widestSwing_33 : decode cX5_widestSwing 33 = .ok (.ireturn, 1) := by decide +kernel
theorem dX5_nextSeed_0 : decode cX5_nextSeed 0 = .ok (.iload_n 0, 1) := by decide +kernel
theorem dX5_nextSeed_1 : decode cX5_nextSeed 1 = .ok (.ldc_w 346, 3) := by decide +kernel
theorem dX5_nextSeed_4 : decode cX5_nextSeed 4 = .ok (.imul, 1) := by decide +kernel
theorem dX5_nextSeed_5 : decode cX5_nextSeed 5 = .ok (.sipush 12345, 3) := by decide +kernel
theorem dX5_nextSeed_8 : decode cX5_nextSeed 8 = .ok (.iadd, 1) := by decide +kernel
theorem dX5_nextSeed_9 : decode cX5_nextSeed 9 = .ok (.ireturn, 1) := by decide +kernel
theorem dX5_draw_0 : decode cX5_draw 0 = .ok (.iload_n 1, 1) := by decide +kernel
theorem dX5_draw_1 : decode cX5_draw 1 = .ok (.ifCond .le 16, 3) := by decide +kernel
theorem dX5_draw_4 : decode cX5_draw 4 = .ok (.iload_n 0, 1) := by decide +kernel
theorem dX5_draw_5 : decode cX5_draw 5 = .ok (.ldc 184, 2) := by decide +kernel
theorem dX5_draw_7 : decode cX5_draw 7 = .ok (.iand, 1) := by decide +kernel
theorem dX5_draw_8 : decode cX5_draw 8 = .ok (.ldc_w 347, 3) := by decide +kernel
theorem dX5_draw_11 : decode cX5_draw 11 = .ok (.idiv, 1) := by decide +kernel
theorem dX5_draw_12 : decode cX5_draw 12 = .ok (.iload_n 1, 1) := by decide +kernel
theorem dX5_draw_13 : decode cX5_draw 13 = .ok (.irem, 1) := by decide +kernel
theorem dX5_draw_14 : decode cX5_draw 14 = .ok (.goto 4, 3) := by decide +kernel
theorem dX5_draw_17 : decode cX5_draw 17 = .ok (.iconst 0, 1) := by decide +kernel
theorem dX5_draw_18 : decode cX5_draw 18 = .ok (.ireturn, 1) := by decide +kernel
theorem dX6_init_0 : decode cX6_init 0 = .ok (.aload_n 0, 1) := by decide +kernel
theorem dX6_init_1 : decode cX6_init 1 = .ok (.invokespecial 1, 3) := by decide +kernel
theorem dX6_init_4 : decode cX6_init 4 = .ok (.aload_n 0, 1) := by decide +kernel
theorem dX6_init_5 : decode cX6_init 5 = .ok (.iconst 5, 1) := by decide +kernel
theorem dX6_init_6 : decode cX6_init 6 = .ok (.newarray .int, 2) := by decide +kernel
theorem dX6_init_8 : decode cX6_init 8 = .ok (.putfield 7, 3) := by decide +kernel
theorem dX6_init_11 : decode cX6_init 11 = .ok (.aload_n 0, 1) := by decide +kernel
theorem dX6_init_12 : decode cX6_init 12 = .ok (.iconst 5, 1) := by decide +kernel
theorem dX6_init_13 : decode cX6_init 13 = .ok (.newarray .int, 2) := by decide +kernel
theorem dX6_init_15 : decode cX6_init 15 = .ok (.putfield 13, 3) := by decide +kernel
theorem dX6_init_18 : decode cX6_init 18 = .ok (.aload_n 0, 1) := by decide +kernel
theorem dX6_init_19 : decode cX6_init 19 = .ok (.iconst 5, 1) := by decide +kernel
theorem dX6_init_20 : decode cX6_init 20 = .ok (.newarray .int, 2) := by decide +kernel
theorem dX6_init_22 : decode cX6_init 22 = .ok (.putfield 16, 3) := by decide +kernel
theorem dX6_init_25 : decode cX6_init 25 = .ok (.aload_n 0, 1) := by decide +kernel
theorem dX6_init_26 : decode cX6_init 26 = .ok (.iconst 5, 1) := by decide +kernel
theorem dX6_init_27 : decode cX6_init 27 = .ok (.newarray .int, 2) := by decide +kernel
theorem dX6_init_29 : decode cX6_init 29 = .ok (.putfield 19, 3) := by decide +kernel
theorem dX6_init_32 : decode cX6_init 32 = .ok (.aload_n 0, 1) := by decide +kernel
theorem dX6_init_33 : decode cX6_init 33 = .ok (.iconst 5, 1) := by decide +kernel
theorem dX6_init_34 : decode cX6_init 34 = .ok (.newarray .int, 2) := by decide +kernel
theorem dX6_init_36 : decode cX6_init 36 = .ok (.putfield 22, 3) := by decide +kernel
theorem dX6_init_39 : decode cX6_init 39 = .ok (.aload_n 0, 1) := by decide +kernel
theorem dX6_init_40 : decode cX6_init 40 = .ok (.bipush 40, 2) := by decide +kernel
theorem dX6_init_42 : decode cX6_init 42 = .ok (.newarray .int, 2) := by decide +kernel
theorem dX6_init_44 : decode cX6_init 44 = .ok (.putfield 25, 3) := by decide +kernel
theorem dX6_init_47 : decode cX6_init 47 = .ok (.aload_n 0, 1) := by decide +kernel
theorem dX6_init_48 : decode cX6_init 48 = .ok (.iconst 5, 1) := by decide +kernel
theorem dX6_init_49 : decode cX6_init 49 = .ok (.newarray .boolean, 2) := by decide +kernel
theorem dX6_init_51 : decode cX6_init 51 = .ok (.putfield 28, 3) := by decide +kernel
theorem dX6_init_54 : decode cX6_init 54 = .ok (.aload_n 0, 1) := by decide +kernel
theorem dX6_init_55 : decode cX6_init 55 = .ok (.bipush 68, 2) := by decide +kernel
theorem dX6_init_57 : decode cX6_init 57 = .ok (.newarray .int, 2) := by decide +kernel
theorem dX6_init_59 : decode cX6_init 59 = .ok (.putfield 32, 3) := by decide +kernel
theorem dX6_init_62 : decode cX6_init 62 = .ok (.aload_n 0, 1) := by decide +kernel
theorem dX6_init_63 : decode cX6_init 63 = .ok (.bipush 68, 2) := by decide +kernel
theorem dX6_init_65 : decode cX6_init 65 = .ok (.newarray .int, 2) := by decide +kernel
theorem dX6_init_67 : decode cX6_init 67 = .ok (.putfield 35, 3) := by decide +kernel
theorem dX6_init_70 : decode cX6_init 70 = .ok (.aload_n 0, 1) := by decide +kernel
theorem dX6_init_71 : decode cX6_init 71 = .ok (.bipush 51, 2) := by decide +kernel
theorem dX6_init_73 : decode cX6_init 73 = .ok (.newarray .int, 2) := by decide +kernel
theorem dX6_init_75 : decode cX6_init 75 = .ok (.putfield 38, 3) := by decide +kernel
theorem dX6_init_78 : decode cX6_init 78 = .ok (.aload_n 0, 1) := by decide +kernel
theorem dX6_init_79 : decode cX6_init 79 = .ok (.bipush 51, 2) := by decide +kernel
theorem dX6_init_81 : decode cX6_init 81 = .ok (.newarray .int, 2) := by decide +kernel
theorem dX6_init_83 : decode cX6_init 83 = .ok (.putfield 41, 3) := by decide +kernel
theorem dX6_init_86 : decode cX6_init 86 = .ok (.aload_n 0, 1) := by decide +kernel
theorem dX6_init_87 : decode cX6_init 87 = .ok (.bipush 51, 2) := by decide +kernel
theorem dX6_init_89 : decode cX6_init 89 = .ok (.newarray .int, 2) := by decide +kernel
theorem dX6_init_91 : decode cX6_init 91 = .ok (.putfield 44, 3) := by decide +kernel
theorem dX6_init_94 : decode cX6_init 94 = .ok (.aload_n 0, 1) := by decide +kernel
theorem dX6_init_95 : decode cX6_init 95 = .ok (.bipush 51, 2) := by decide +kernel
theorem dX6_init_97 : decode cX6_init 97 = .ok (.newarray .int, 2) := by decide +kernel
theorem dX6_init_99 : decode cX6_init 99 = .ok (.putfield 47, 3) := by decide +kernel
theorem dX6_init_102 : decode cX6_init 102 = .ok (.aload_n 0, 1) := by decide +kernel
theorem dX6_init_103 : decode cX6_init 103 = .ok (.bipush 51, 2) := by decide +kernel
theorem dX6_init_105 : decode cX6_init 105 = .ok (.newarray .int, 2) := by decide +kernel
theorem dX6_init_107 : decode cX6_init 107 = .ok (.putfield 50, 3) := by decide +kernel
theorem dX6_init_110 : decode cX6_init 110 = .ok (.aload_n 0, 1) := by decide +kernel
theorem dX6_init_111 : decode cX6_init 111 = .ok (.bipush 51, 2) := by decide +kernel
theorem dX6_init_113 : decode cX6_init 113 = .ok (.newarray .int, 2) := by decide +kernel
theorem dX6_init_115 : decode cX6_init 115 = .ok (.putfield 53, 3) := by decide +kernel
theorem dX6_init_118 : decode cX6_init 118 = .ok (.aload_n 0, 1) := by decide +kernel
theorem dX6_init_119 : decode cX6_init 119 = .ok (.bipush 40, 2) := by decide +kernel
theorem dX6_init_121 : decode cX6_init 121 = .ok (.newarray .int, 2) := by decide +kernel
theorem dX6_init_123 : decode cX6_init 123 = .ok (.putfield 56, 3) := by decide +kernel
theorem dX6_init_126 : decode cX6_init 126 = .ok (.aload_n 0, 1) := by decide +kernel
theorem dX6_init_127 : decode cX6_init 127 = .ok (.iconst 5, 1) := by decide +kernel
theorem dX6_init_128 : decode cX6_init 128 = .ok (.newarray .int, 2) := by decide +kernel
theorem dX6_init_130 : decode cX6_init 130 = .ok (.putfield 59, 3) := by decide +kernel
theorem dX6_init_133 : decode cX6_init 133 = .ok (.aload_n 0, 1) := by decide +kernel
theorem dX6_init_134 : decode cX6_init 134 = .ok (.iconst 5, 1) := by decide +kernel
theorem dX6_init_135 : decode cX6_init 135 = .ok (.newarray .int, 2) := by decide +kernel
theorem dX6_init_137 : decode cX6_init 137 = .ok (.putfield 62, 3) := by decide +kernel
theorem dX6_init_140 : decode cX6_init 140 = .ok (.aload_n 0, 1) := by decide +kernel
theorem dX6_init_141 : decode cX6_init 141 = .ok (.bipush 61, 2) := by decide +kernel
theorem dX6_init_143 : decode cX6_init 143 = .ok (.newarray .int, 2) := by decide +kernel
theorem dX6_init_145 : decode cX6_init 145 = .ok (.putfield 65, 3) := by decide +kernel
theorem dX6_init_148 : decode cX6_init 148 = .ok (.aload_n 0, 1) := by decide +kernel
theorem dX6_init_149 : decode cX6_init 149 = .ok (.bipush 8, 2) := by decide +kernel
theorem dX6_init_151 : decode cX6_init 151 = .ok (.newarray .int, 2) := by decide +kernel
theorem dX6_init_153 : decode cX6_init 153 = .ok (.putfield 68, 3) := by decide +kernel
theorem dX6_init_156 : decode cX6_init 156 = .ok (.aload_n 0, 1) := by decide +kernel
theorem dX6_init_157 : decode cX6_init 157 = .ok (.bipush 8, 2) := by decide +kernel
theorem dX6_init_159 : decode cX6_init 159 = .ok (.newarray .int, 2) := by decide +kernel
theorem dX6_init_161 : decode cX6_init 161 = .ok (.putfield 71, 3) := by decide +kernel
theorem dX6_init_164 : decode cX6_init 164 = .ok (.aload_n 0, 1) := by decide +kernel
theorem dX6_init_165 : decode cX6_init 165 = .ok (.bipush 8, 2) := by decide +kernel
theorem dX6_init_167 : decode cX6_init 167 = .ok (.newarray .int, 2) := by decide +kernel
theorem dX6_init_169 : decode cX6_init 169 = .ok (.putfield 74, 3) := by decide +kernel
theorem dX6_init_172 : decode cX6_init 172 = .ok (.aload_n 0, 1) := by decide +kernel
theorem dX6_init_173 : decode cX6_init 173 = .ok (.bipush 8, 2) := by decide +kernel
theorem dX6_init_175 : decode cX6_init 175 = .ok (.newarray .int, 2) := by decide +kernel
theorem dX6_init_177 : decode cX6_init 177 = .ok (.putfield 77, 3) := by decide +kernel
theorem dX6_init_180 : decode cX6_init 180 = .ok (.aload_n 0, 1) := by decide +kernel
theorem dX6_init_181 : decode cX6_init 181 = .ok (.bipush 8, 2) := by decide +kernel
theorem dX6_init_183 : decode cX6_init 183 = .ok (.newarray .int, 2) := by decide +kernel
theorem dX6_init_185 : decode cX6_init 185 = .ok (.putfield 80, 3) := by decide +kernel
theorem dX6_init_188 : decode cX6_init 188 = .ok (.aload_n 0, 1) := by decide +kernel
theorem dX6_init_189 : decode cX6_init 189 = .ok (.bipush 8, 2) := by decide +kernel
theorem dX6_init_191 : decode cX6_init 191 = .ok (.newarray .int, 2) := by decide +kernel
theorem dX6_init_193 : decode cX6_init 193 = .ok (.putfield 83, 3) := by decide +kernel
theorem dX6_init_196 : decode cX6_init 196 = .ok (.aload_n 0, 1) := by decide +kernel
theorem dX6_init_197 : decode cX6_init 197 = .ok (.sipush 800, 3) := by decide +kernel
theorem dX6_init_200 : decode cX6_init 200 = .ok (.newarray .long, 2) := by decide +kernel
theorem dX6_init_202 : decode cX6_init 202 = .ok (.putfield 86, 3) := by decide +kernel
theorem dX6_init_205 : decode cX6_init 205 = .ok (.aload_n 0, 1) := by decide +kernel
theorem dX6_init_206 : decode cX6_init 206 = .ok (.bipush 100, 2) := by decide +kernel
theorem dX6_init_208 : decode cX6_init 208 = .ok (.newarray .long, 2) := by decide +kernel
theorem dX6_init_210 : decode cX6_init 210 = .ok (.putfield 90, 3) := by decide +kernel
theorem dX6_init_213 : decode cX6_init 213 = .ok (.aload_n 0, 1) := by decide +kernel
theorem dX6_init_214 : decode cX6_init 214 = .ok (.iconst 0, 1) := by decide +kernel
theorem dX6_init_215 : decode cX6_init 215 = .ok (.putfield 93, 3) := by decide +kernel
theorem dX6_init_218 : decode cX6_init 218 = .ok (.return_, 1) := by decide +kernel
theorem dX6_thrown_0 : decode cX6_thrown 0 = .ok (.aload_n 0, 1) := by decide +kernel
theorem dX6_thrown_1 : decode cX6_thrown 1 = .ok (.getfield 93, 3) := by decide +kernel
theorem dX6_thrown_4 : decode cX6_thrown 4 = .ok (.ireturn, 1) := by decide +kernel
theorem dX6_in_0 : decode cX6_in 0 = .ok (.lload_n 0, 1) := by decide +kernel
theorem dX6_in_1 : decode cX6_in 1 = .ok (.lload_n 2, 1) := by decide +kernel
theorem dX6_in_2 : decode cX6_in 2 = .ok (.lcmp, 1) := by decide +kernel
theorem dX6_in_3 : decode cX6_in 3 = .ok (.ifCond .lt 14, 3) := by decide +kernel
theorem dX6_in_6 : decode cX6_in 6 = .ok (.lload_n 0, 1) := by decide +kernel
theorem dX6_in_7 : decode cX6_in 7 = .ok (.lload 4, 2) := by decide +kernel
theorem dX6_in_9 : decode cX6_in 9 = .ok (.lcmp, 1) := by decide +kernel
theorem dX6_in_10 : decode cX6_in 10 = .ok (.ifCond .gt 7, 3) := by decide +kernel
theorem dX6_in_13 : decode cX6_in 13 = .ok (.iconst 1, 1) := by decide +kernel
theorem dX6_in_14 : decode cX6_in 14 = .ok (.goto 4, 3) := by decide +kernel
theorem dX6_in_17 : decode cX6_in 17 = .ok (.iconst 0, 1) := by decide +kernel
theorem dX6_in_18 : decode cX6_in 18 = .ok (.ireturn, 1) := by decide +kernel
theorem dX6_isLane_0 : decode cX6_isLane 0 = .ok (.iload_n 1, 1) := by decide +kernel
theorem dX6_isLane_1 : decode cX6_isLane 1 = .ok (.i2l, 1) := by decide +kernel
theorem dX6_isLane_2 : decode cX6_isLane 2 = .ok (.lconst 0, 1) := by decide +kernel
theorem dX6_isLane_3 : decode cX6_isLane 3 = .ok (.aload_n 0, 1) := by decide +kernel
theorem dX6_isLane_4 : decode cX6_isLane 4 = .ok (.getfield 97, 3) := by decide +kernel
theorem dX6_isLane_7 : decode cX6_isLane 7 = .ok (.iconst 1, 1) := by decide +kernel
theorem dX6_isLane_8 : decode cX6_isLane 8 = .ok (.isub, 1) := by decide +kernel
theorem dX6_isLane_9 : decode cX6_isLane 9 = .ok (.i2l, 1) := by decide +kernel
theorem dX6_isLane_10 : decode cX6_isLane 10 = .ok (.invokestatic 100, 3) := by decide +kernel
theorem dX6_isLane_13 : decode cX6_isLane 13 = .ok (.ireturn, 1) := by decide +kernel
theorem dX6_plainTakes_0 : decode cX6_plainTakes 0 = .ok (.iload_n 0, 1) := by decide +kernel
theorem dX6_plainTakes_1 : decode cX6_plainTakes 1 = .ok (.ifCond .ne 7, 3) := by decide +kernel
theorem dX6_plainTakes_4 : decode cX6_plainTakes 4 = .ok (.iconst 2, 1) := by decide +kernel
theorem dX6_plainTakes_5 : decode cX6_plainTakes 5 = .ok (.goto 23, 3) := by decide +kernel
theorem dX6_plainTakes_8 : decode cX6_plainTakes 8 = .ok (.iload_n 0, 1) := by decide +kernel
theorem dX6_plainTakes_9 : decode cX6_plainTakes 9 = .ok (.iconst 1, 1) := by decide +kernel
theorem dX6_plainTakes_10 : decode cX6_plainTakes 10 = .ok (.if_icmp .ne 7, 3) := by decide +kernel
theorem dX6_plainTakes_13 : decode cX6_plainTakes 13 = .ok (.iconst 3, 1) := by decide +kernel
theorem dX6_plainTakes_14 : decode cX6_plainTakes 14 = .ok (.goto 14, 3) := by decide +kernel
theorem dX6_plainTakes_17 : decode cX6_plainTakes 17 = .ok (.iload_n 0, 1) := by decide +kernel
theorem dX6_plainTakes_18 : decode cX6_plainTakes 18 = .ok (.iconst 2, 1) := by decide +kernel
theorem dX6_plainTakes_19 : decode cX6_plainTakes 19 = .ok (.if_icmp .ne 7, 3) := by decide +kernel
theorem dX6_plainTakes_22 : decode cX6_plainTakes 22 = .ok (.iconst 5, 1) := by decide +kernel
theorem dX6_plainTakes_23 : decode cX6_plainTakes 23 = .ok (.goto 5, 3) := by decide +kernel
theorem dX6_plainTakes_26 : decode cX6_plainTakes 26 = .ok (.bipush 8, 2) := by decide +kernel
theorem dX6_plainTakes_28 : decode cX6_plainTakes 28 = .ok (.ireturn, 1) := by decide +kernel
theorem dX6_takesBy_0 : decode cX6_takesBy 0 = .ok (.iload_n 2, 1) := by decide +kernel
theorem dX6_takesBy_1 : decode cX6_takesBy 1 = .ok (.invokestatic 104, 3) := by decide +kernel
theorem dX6_takesBy_4 : decode cX6_takesBy 4 = .ok (.istore_n 3, 1) := by decide +kernel
theorem dX6_takesBy_5 : decode cX6_takesBy 5 = .ok (.iload_n 0, 1) := by decide +kernel
theorem dX6_takesBy_6 : decode cX6_takesBy 6 = .ok (.tableswitch 81 1 7 #[42, 46, 50, 81, 67, 73, 77], 42) := by decide +kernel
theorem dX6_takesBy_48 : decode cX6_takesBy 48 = .ok (.iload_n 3, 1) := by decide +kernel
theorem dX6_takesBy_49 : decode cX6_takesBy 49 = .ok (.iconst 1, 1) := by decide +kernel
theorem dX6_takesBy_50 : decode cX6_takesBy 50 = .ok (.isub, 1) := by decide +kernel
theorem dX6_takesBy_51 : decode cX6_takesBy 51 = .ok (.ireturn, 1) := by decide +kernel
theorem dX6_takesBy_52 : decode cX6_takesBy 52 = .ok (.iconst 2, 1) := by decide +kernel
theorem dX6_takesBy_53 : decode cX6_takesBy 53 = .ok (.iload_n 3, 1) := by decide +kernel
theorem dX6_takesBy_54 : decode cX6_takesBy 54 = .ok (.imul, 1) := by decide +kernel
theorem dX6_takesBy_55 : decode cX6_takesBy 55 = .ok (.ireturn, 1) := by decide +kernel
theorem dX6_takesBy_56 : decode cX6_takesBy 56 = .ok (.iload_n 2, 1) := by decide +kernel
theorem dX6_takesBy_57 : decode cX6_takesBy 57 = .ok (.iconst 3, 1) := by decide +kernel
theorem dX6_takesBy_58 : decode cX6_takesBy 58 = .ok (.if_icmp .ne 11, 3) := by decide +kernel
theorem dX6_takesBy_61 : decode cX6_takesBy 61 = .ok (.iconst 2, 1) := by decide +kernel
theorem dX6_takesBy_62 : decode cX6_takesBy 62 = .ok (.iload_n 3, 1) := by decide +kernel
theorem dX6_takesBy_63 : decode cX6_takesBy 63 = .ok (.imul, 1) := by decide +kernel
theorem dX6_takesBy_64 : decode cX6_takesBy 64 = .ok (.iload_n 1, 1) := by decide +kernel
theorem dX6_takesBy_65 : decode cX6_takesBy 65 = .ok (.iadd, 1) := by decide +kernel
theorem dX6_takesBy_66 : decode cX6_takesBy 66 = .ok (.goto 6, 3) := by decide +kernel
theorem dX6_takesBy_69 : decode cX6_takesBy 69 = .ok (.iconst 2, 1) := by decide +kernel
theorem dX6_takesBy_70 : decode cX6_takesBy 70 = .ok (.iload_n 3, 1) := by decide +kernel
theorem dX6_takesBy_71 : decode cX6_takesBy 71 = .ok (.imul, 1) := by decide +kernel
theorem dX6_takesBy_72 : decode cX6_takesBy 72 = .ok (.ireturn, 1) := by decide +kernel
theorem dX6_takesBy_73 : decode cX6_takesBy 73 = .ok (.iconst 2, 1) := by decide +kernel
theorem dX6_takesBy_74 : decode cX6_takesBy 74 = .ok (.iload_n 3, 1) := by decide +kernel
theorem dX6_takesBy_75 : decode cX6_takesBy 75 = .ok (.imul, 1) := by decide +kernel
theorem dX6_takesBy_76 : decode cX6_takesBy 76 = .ok (.iconst 1, 1) := by decide +kernel
theorem dX6_takesBy_77 : decode cX6_takesBy 77 = .ok (.iadd, 1) := by decide +kernel
theorem dX6_takesBy_78 : decode cX6_takesBy 78 = .ok (.ireturn, 1) := by decide +kernel
theorem dX6_takesBy_79 : decode cX6_takesBy 79 = .ok (.iload_n 3, 1) := by decide +kernel
theorem dX6_takesBy_80 : decode cX6_takesBy 80 = .ok (.iconst 2, 1) := by decide +kernel
theorem dX6_takesBy_81 : decode cX6_takesBy 81 = .ok (.idiv, 1) := by decide +kernel
theorem dX6_takesBy_82 : decode cX6_takesBy 82 = .ok (.ireturn, 1) := by decide +kernel
theorem dX6_takesBy_83 : decode cX6_takesBy 83 = .ok (.iload_n 3, 1) := by decide +kernel
theorem dX6_takesBy_84 : decode cX6_takesBy 84 = .ok (.iload_n 1, 1) := by decide +kernel
theorem dX6_takesBy_85 : decode cX6_takesBy 85 = .ok (.iadd, 1) := by decide +kernel
theorem dX6_takesBy_86 : decode cX6_takesBy 86 = .ok (.ireturn, 1) := by decide +kernel
theorem dX6_takesBy_87 : decode cX6_takesBy 87 = .ok (.iload_n 3, 1) := by decide +kernel
theorem dX6_takesBy_88 : decode cX6_takesBy 88 = .ok (.ireturn, 1) := by decide +kernel
theorem dX6_takesIn_0 : decode cX6_takesIn 0 = .ok (.aload_n 0, 1) := by decide +kernel
theorem dX6_takesIn_1 : decode cX6_takesIn 1 = .ok (.getfield 7, 3) := by decide +kernel
theorem dX6_takesIn_4 : decode cX6_takesIn 4 = .ok (.iload_n 1, 1) := by decide +kernel
theorem dX6_takesIn_5 : decode cX6_takesIn 5 = .ok (.iaload, 1) := by decide +kernel
theorem dX6_takesIn_6 : decode cX6_takesIn 6 = .ok (.aload_n 0, 1) := by decide +kernel
theorem dX6_takesIn_7 : decode cX6_takesIn 7 = .ok (.getfield 13, 3) := by decide +kernel
theorem dX6_takesIn_10 : decode cX6_takesIn 10 = .ok (.iload_n 1, 1) := by decide +kernel
theorem dX6_takesIn_11 : decode cX6_takesIn 11 = .ok (.iaload, 1) := by decide +kernel
theorem dX6_takesIn_12 : decode cX6_takesIn 12 = .ok (.iload_n 2, 1) := by decide +kernel
theorem dX6_takesIn_13 : decode cX6_takesIn 13 = .ok (.invokestatic 108, 3) := by decide +kernel
theorem dX6_takesIn_16 : decode cX6_takesIn 16 = .ok (.ireturn, 1) := by decide +kernel
theorem dX6_seenIn_0 : decode cX6_seenIn 0 = .ok (.aload_n 0, 1) := by decide +kernel
theorem dX6_seenIn_1 : decode cX6_seenIn 1 = .ok (.getfield 16, 3) := by decide +kernel
theorem dX6_seenIn_4 : decode cX6_seenIn 4 = .ok (.iload_n 1, 1) := by decide +kernel
theorem dX6_seenIn_5 : decode cX6_seenIn 5 = .ok (.iaload, 1) := by decide +kernel
theorem dX6_seenIn_6 : decode cX6_seenIn 6 = .ok (.istore_n 2, 1) := by decide +kernel
theorem dX6_seenIn_7 : decode cX6_seenIn 7 = .ok (.iload_n 2, 1) := by decide +kernel
theorem dX6_seenIn_8 : decode cX6_seenIn 8 = .ok (.ifCond .le 9, 3) := by decide +kernel
theorem dX6_seenIn_11 : decode cX6_seenIn 11 = .ok (.iload_n 2, 1) := by decide +kernel
theorem dX6_seenIn_12 : decode cX6_seenIn 12 = .ok (.iconst 1, 1) := by decide +kernel
theorem dX6_seenIn_13 : decode cX6_seenIn 13 = .ok (.isub, 1) := by decide +kernel
theorem dX6_seenIn_14 : decode cX6_seenIn 14 = .ok (.goto 4, 3) := by decide +kernel
theorem dX6_seenIn_17 : decode cX6_seenIn 17 = .ok (.iconst 0, 1) := by decide +kernel
theorem dX6_seenIn_18 : decode cX6_seenIn 18 = .ok (.istore_n 3, 1) := by decide +kernel
theorem dX6_seenIn_19 : decode cX6_seenIn 19 = .ok (.aload_n 0, 1) := by decide +kernel
theorem dX6_seenIn_20 : decode cX6_seenIn 20 = .ok (.getfield 7, 3) := by decide +kernel
theorem dX6_seenIn_23 : decode cX6_seenIn 23 = .ok (.iload_n 1, 1) := by decide +kernel
theorem dX6_seenIn_24 : decode cX6_seenIn 24 = .ok (.iaload, 1) := by decide +kernel
theorem dX6_seenIn_25 : decode cX6_seenIn 25 = .ok (.tableswitch 72 2 7 #[39, 39, 41, 62, 72, 66], 39) := by decide +kernel
theorem dX6_seenIn_64 : decode cX6_seenIn 64 = .ok (.iload_n 3, 1) := by decide +kernel
theorem dX6_seenIn_65 : decode cX6_seenIn 65 = .ok (.ireturn, 1) := by decide +kernel
theorem dX6_seenIn_66 : decode cX6_seenIn 66 = .ok (.iload_n 2, 1) := by decide +kernel
theorem dX6_seenIn_67 : decode cX6_seenIn 67 = .ok (.aload_n 0, 1) := by decide +kernel
theorem dX6_seenIn_68 : decode cX6_seenIn 68 = .ok (.getfield 13, 3) := by decide +kernel
theorem dX6_seenIn_71 : decode cX6_seenIn 71 = .ok (.iload_n 1, 1) := by decide +kernel
theorem dX6_seenIn_72 : decode cX6_seenIn 72 = .ok (.iaload, 1) := by decide +kernel
theorem dX6_seenIn_73 : decode cX6_seenIn 73 = .ok (.if_icmp .ge 7, 3) := by decide +kernel
theorem dX6_seenIn_76 : decode cX6_seenIn 76 = .ok (.iload_n 2, 1) := by decide +kernel
theorem dX6_seenIn_77 : decode cX6_seenIn 77 = .ok (.goto 9, 3) := by decide +kernel
theorem dX6_seenIn_80 : decode cX6_seenIn 80 = .ok (.aload_n 0, 1) := by decide +kernel
theorem dX6_seenIn_81 : decode cX6_seenIn 81 = .ok (.getfield 13, 3) := by decide +kernel
theorem dX6_seenIn_84 : decode cX6_seenIn 84 = .ok (.iload_n 1, 1) := by decide +kernel
theorem dX6_seenIn_85 : decode cX6_seenIn 85 = .ok (.iaload, 1) := by decide +kernel
theorem dX6_seenIn_86 : decode cX6_seenIn 86 = .ok (.ireturn, 1) := by decide +kernel
theorem dX6_seenIn_87 : decode cX6_seenIn 87 = .ok (.iload_n 3, 1) := by decide +kernel
theorem dX6_seenIn_88 : decode cX6_seenIn 88 = .ok (.iconst 2, 1) := by decide +kernel
theorem dX6_seenIn_89 : decode cX6_seenIn 89 = .ok (.idiv, 1) := by decide +kernel
theorem dX6_seenIn_90 : decode cX6_seenIn 90 = .ok (.ireturn, 1) := by decide +kernel
theorem dX6_seenIn_91 : decode cX6_seenIn 91 = .ok (.iload_n 2, 1) := by decide +kernel
theorem dX6_seenIn_92 : decode cX6_seenIn 92 = .ok (.iconst 1, 1) := by decide +kernel
theorem dX6_seenIn_93 : decode cX6_seenIn 93 = .ok (.iadd, 1) := by decide +kernel
theorem dX6_seenIn_94 : decode cX6_seenIn 94 = .ok (.iconst 2, 1) := by decide +kernel
theorem dX6_seenIn_95 : decode cX6_seenIn 95 = .ok (.idiv, 1) := by decide +kernel
theorem dX6_seenIn_96 : decode cX6_seenIn 96 = .ok (.ireturn, 1) := by decide +kernel
theorem dX6_seenIn_97 : decode cX6_seenIn 97 = .ok (.iload_n 2, 1) := by decide +kernel
theorem dX6_seenIn_98 : decode cX6_seenIn 98 = .ok (.ireturn, 1) := by decide +kernel
theorem dX6_isOpen_0 : decode cX6_isOpen 0 = .ok (.aload_n 0, 1) := by decide +kernel
theorem dX6_isOpen_1 : decode cX6_isOpen 1 = .ok (.getfield 7, 3) := by decide +kernel
theorem dX6_isOpen_4 : decode cX6_isOpen 4 = .ok (.iload_n 1, 1) := by decide +kernel
theorem dX6_isOpen_5 : decode cX6_isOpen 5 = .ok (.iaload, 1) := by decide +kernel
theorem dX6_isOpen_6 : decode cX6_isOpen 6 = .ok (.iconst 5, 1) := by decide +kernel
theorem dX6_isOpen_7 : decode cX6_isOpen 7 = .ok (.if_icmp .ne 18, 3) := by decide +kernel
theorem dX6_isOpen_10 : decode cX6_isOpen 10 = .ok (.aload_n 0, 1) := by decide +kernel
theorem dX6_isOpen_11 : decode cX6_isOpen 11 = .ok (.getfield 16, 3) := by decide +kernel
theorem dX6_isOpen_14 : decode cX6_isOpen 14 = .ok (.iload_n 1, 1) := by decide +kernel
theorem dX6_isOpen_15 : decode cX6_isOpen 15 = .ok (.iaload, 1) := by decide +kernel
theorem dX6_isOpen_16 : decode cX6_isOpen 16 = .ok (.aload_n 0, 1) := by decide +kernel
theorem dX6_isOpen_17 : decode cX6_isOpen 17 = .ok (.getfield 13, 3) := by decide +kernel
theorem dX6_isOpen_20 : decode cX6_isOpen 20 = .ok (.iload_n 1, 1) := by decide +kernel
theorem dX6_isOpen_21 : decode cX6_isOpen 21 = .ok (.iaload, 1) := by decide +kernel
theorem dX6_isOpen_22 : decode cX6_isOpen 22 = .ok (.if_icmp .ge 7, 3) := by decide +kernel
theorem dX6_isOpen_25 : decode cX6_isOpen 25 = .ok (.iconst 1, 1) := by decide +kernel
theorem dX6_isOpen_26 : decode cX6_isOpen 26 = .ok (.goto 4, 3) := by decide +kernel
theorem dX6_isOpen_29 : decode cX6_isOpen 29 = .ok (.iconst 0, 1) := by decide +kernel
theorem dX6_isOpen_30 : decode cX6_isOpen 30 = .ok (.ireturn, 1) := by decide +kernel
theorem dX6_mayCome_0 : decode cX6_mayCome 0 = .ok (.aload_n 0, 1) := by decide +kernel
theorem dX6_mayCome_1 : decode cX6_mayCome 1 = .ok (.iload_n 1, 1) := by decide +kernel
theorem dX6_mayCome_2 : decode cX6_mayCome 2 = .ok (.invokevirtual 112, 3) := by decide +kernel
theorem dX6_mayCome_5 : decode cX6_mayCome 5 = .ok (.ifCond .eq 18, 3) := by decide +kernel
theorem dX6_mayCome_8 : decode cX6_mayCome 8 = .ok (.aload_n 0, 1) := by decide +kernel
theorem dX6_mayCome_9 : decode cX6_mayCome 9 = .ok (.getfield 16, 3) := by decide +kernel
theorem dX6_mayCome_12 : decode cX6_mayCome 12 = .ok (.iload_n 1, 1) := by decide +kernel
theorem dX6_mayCome_13 : decode cX6_mayCome 13 = .ok (.iaload, 1) := by decide +kernel
theorem dX6_mayCome_14 : decode cX6_mayCome 14 = .ok (.bipush 8, 2) := by decide +kernel
theorem dX6_mayCome_16 : decode cX6_mayCome 16 = .ok (.if_icmp .ge 7, 3) := by decide +kernel
theorem dX6_mayCome_19 : decode cX6_mayCome 19 = .ok (.iconst 1, 1) := by decide +kernel
theorem dX6_mayCome_20 : decode cX6_mayCome 20 = .ok (.goto 4, 3) := by decide +kernel
theorem dX6_mayCome_23 : decode cX6_mayCome 23 = .ok (.iconst 0, 1) := by decide +kernel
theorem dX6_mayCome_24 : decode cX6_mayCome 24 = .ok (.ireturn, 1) := by decide +kernel
theorem dX6_waitIn_0 : decode cX6_waitIn 0 = .ok (.aload_n 0, 1) := by decide +kernel
theorem dX6_waitIn_1 : decode cX6_waitIn 1 = .ok (.getfield 16, 3) := by decide +kernel
theorem dX6_waitIn_4 : decode cX6_waitIn 4 = .ok (.iload_n 1, 1) := by decide +kernel
theorem dX6_waitIn_5 : decode cX6_waitIn 5 = .ok (.iaload, 1) := by decide +kernel
theorem dX6_waitIn_6 : decode cX6_waitIn 6 = .ok (.ifCond .le 12, 3) := by decide +kernel
theorem dX6_waitIn_9 : decode cX6_waitIn 9 = .ok (.aload_n 0, 1) := by decide +kernel
theorem dX6_waitIn_10 : decode cX6_waitIn 10 = .ok (.getfield 19, 3) := by decide +kernel
theorem dX6_waitIn_13 : decode cX6_waitIn 13 = .ok (.iload_n 1, 1) := by decide +kernel
theorem dX6_waitIn_14 : decode cX6_waitIn 14 = .ok (.iaload, 1) := by decide +kernel
theorem dX6_waitIn_15 : decode cX6_waitIn 15 = .ok (.goto 4, 3) := by decide +kernel
theorem dX6_waitIn_18 : decode cX6_waitIn 18 = .ok (.iconst 0, 1) := by decide +kernel
theorem dX6_waitIn_19 : decode cX6_waitIn 19 = .ok (.istore_n 2, 1) := by decide +kernel
theorem dX6_waitIn_20 : decode cX6_waitIn 20 = .ok (.iconst 1, 1) := by decide +kernel
theorem dX6_waitIn_21 : decode cX6_waitIn 21 = .ok (.istore_n 3, 1) := by decide +kernel
theorem dX6_waitIn_22 : decode cX6_waitIn 22 = .ok (.iload_n 3, 1) := by decide +kernel
theorem dX6_waitIn_23 : decode cX6_waitIn 23 = .ok (.aload_n 0, 1) := by decide +kernel
theorem dX6_waitIn_24 : decode cX6_waitIn 24 = .ok (.getfield 16, 3) := by decide +kernel
theorem dX6_waitIn_27 : decode cX6_waitIn 27 = .ok (.iload_n 1, 1) := by decide +kernel
theorem dX6_waitIn_28 : decode cX6_waitIn 28 = .ok (.iaload, 1) := by decide +kernel
theorem dX6_waitIn_29 : decode cX6_waitIn 29 = .ok (.if_icmp .ge 28, 3) := by decide +kernel
theorem dX6_waitIn_32 : decode cX6_waitIn 32 = .ok (.iload_n 2, 1) := by decide +kernel
theorem dX6_waitIn_33 : decode cX6_waitIn 33 = .ok (.aload_n 0, 1) := by decide +kernel
theorem dX6_waitIn_34 : decode cX6_waitIn 34 = .ok (.iload_n 1, 1) := by decide +kernel
theorem dX6_waitIn_35 : decode cX6_waitIn 35 = .ok (.aload_n 0, 1) := by decide +kernel
theorem dX6_waitIn_36 : decode cX6_waitIn 36 = .ok (.getfield 25, 3) := by decide +kernel
theorem dX6_waitIn_39 : decode cX6_waitIn 39 = .ok (.bipush 8, 2) := by decide +kernel
theorem dX6_waitIn_41 : decode cX6_waitIn 41 = .ok (.iload_n 1, 1) := by decide +kernel
theorem dX6_waitIn_42 : decode cX6_waitIn 42 = .ok (.imul, 1) := by decide +kernel
theorem dX6_waitIn_43 : decode cX6_waitIn 43 = .ok (.iload_n 3, 1) := by decide +kernel
theorem dX6_waitIn_44 : decode cX6_waitIn 44 = .ok (.iadd, 1) := by decide +kernel
theorem dX6_waitIn_45 : decode cX6_waitIn 45 = .ok (.iaload, 1) := by decide +kernel
theorem dX6_waitIn_46 : decode cX6_waitIn 46 = .ok (.invokevirtual 116, 3) := by decide +kernel
theorem dX6_waitIn_49 : decode cX6_waitIn 49 = .ok (.iadd, 1) := by decide +kernel
theorem dX6_waitIn_50 : decode cX6_waitIn 50 = .ok (.istore_n 2, 1) := by decide +kernel
theorem dX6_waitIn_51 : decode cX6_waitIn 51 = .ok (.iinc 3 1, 3) := by decide +kernel
theorem dX6_waitIn_54 : decode cX6_waitIn 54 = .ok (.goto (-32), 3) := by decide +kernel
theorem dX6_waitIn_57 : decode cX6_waitIn 57 = .ok (.iload_n 2, 1) := by decide +kernel
theorem dX6_waitIn_58 : decode cX6_waitIn 58 = .ok (.ireturn, 1) := by decide +kernel
theorem dX6_seemsIn_0 : decode cX6_seemsIn 0 = .ok (.iconst 0, 1) := by decide +kernel
theorem dX6_seemsIn_1 : decode cX6_seemsIn 1 = .ok (.istore_n 2, 1) := by decide +kernel
theorem dX6_seemsIn_2 : decode cX6_seemsIn 2 = .ok (.aload_n 0, 1) := by decide +kernel
theorem dX6_seemsIn_3 : decode cX6_seemsIn 3 = .ok (.iload_n 1, 1) := by decide +kernel
theorem dX6_seemsIn_4 : decode cX6_seemsIn 4 = .ok (.invokevirtual 120, 3) := by decide +kernel
theorem dX6_seemsIn_7 : decode cX6_seemsIn 7 = .ok (.istore_n 3, 1) := by decide +kernel
theorem dX6_seemsIn_8 : decode cX6_seemsIn 8 = .ok (.iconst 0, 1) := by decide +kernel
theorem dX6_seemsIn_9 : decode cX6_seemsIn 9 = .ok (.istore 4, 2) := by decide +kernel
theorem dX6_seemsIn_11 : decode cX6_seemsIn 11 = .ok (.iload 4, 2) := by decide +kernel
theorem dX6_seemsIn_13 : decode cX6_seemsIn 13 = .ok (.iload_n 3, 1) := by decide +kernel
theorem dX6_seemsIn_14 : decode cX6_seemsIn 14 = .ok (.if_icmp .ge 27, 3) := by decide +kernel
theorem dX6_seemsIn_17 : decode cX6_seemsIn 17 = .ok (.iload_n 2, 1) := by decide +kernel
theorem dX6_seemsIn_18 : decode cX6_seemsIn 18 = .ok (.aload_n 0, 1) := by decide +kernel
theorem dX6_seemsIn_19 : decode cX6_seemsIn 19 = .ok (.getfield 25, 3) := by decide +kernel
theorem dX6_seemsIn_22 : decode cX6_seemsIn 22 = .ok (.bipush 8, 2) := by decide +kernel
theorem dX6_seemsIn_24 : decode cX6_seemsIn 24 = .ok (.iload_n 1, 1) := by decide +kernel
theorem dX6_seemsIn_25 : decode cX6_seemsIn 25 = .ok (.imul, 1) := by decide +kernel
theorem dX6_seemsIn_26 : decode cX6_seemsIn 26 = .ok (.iload 4, 2) := by decide +kernel
theorem dX6_seemsIn_28 : decode cX6_seemsIn 28 = .ok (.iadd, 1) := by decide +kernel
theorem dX6_seemsIn_29 : decode cX6_seemsIn 29 = .ok (.iaload, 1) := by decide +kernel
theorem dX6_seemsIn_30 : decode cX6_seemsIn 30 = .ok (.invokestatic 104, 3) := by decide +kernel
theorem dX6_seemsIn_33 : decode cX6_seemsIn 33 = .ok (.iadd, 1) := by decide +kernel
theorem dX6_seemsIn_34 : decode cX6_seemsIn 34 = .ok (.istore_n 2, 1) := by decide +kernel
theorem dX6_seemsIn_35 : decode cX6_seemsIn 35 = .ok (.iinc 4 1, 3) := by decide +kernel
theorem dX6_seemsIn_38 : decode cX6_seemsIn 38 = .ok (.goto (-27), 3) := by decide +kernel
theorem dX6_seemsIn_41 : decode cX6_seemsIn 41 = .ok (.iload_n 2, 1) := by decide +kernel
theorem dX6_seemsIn_42 : decode cX6_seemsIn 42 = .ok (.ireturn, 1) := by decide +kernel
theorem dX6_timeIn_0 : decode cX6_timeIn 0 = .ok (.aload_n 0, 1) := by decide +kernel
theorem dX6_timeIn_1 : decode cX6_timeIn 1 = .ok (.iload_n 1, 1) := by decide +kernel
theorem dX6_timeIn_2 : decode cX6_timeIn 2 = .ok (.invokevirtual 123, 3) := by decide +kernel
theorem dX6_timeIn_5 : decode cX6_timeIn 5 = .ok (.aload_n 0, 1) := by decide +kernel
theorem dX6_timeIn_6 : decode cX6_timeIn 6 = .ok (.iload_n 1, 1) := by decide +kernel
theorem dX6_timeIn_7 : decode cX6_timeIn 7 = .ok (.iload_n 2, 1) := by decide +kernel
theorem dX6_timeIn_8 : decode cX6_timeIn 8 = .ok (.invokevirtual 116, 3) := by decide +kernel
theorem dX6_timeIn_11 : decode cX6_timeIn 11 = .ok (.iadd, 1) := by decide +kernel
theorem dX6_timeIn_12 : decode cX6_timeIn 12 = .ok (.ireturn, 1) := by decide +kernel
theorem dX6_comeIn_0 : decode cX6_comeIn 0 = .ok (.aload_n 0, 1) := by decide +kernel
theorem dX6_comeIn_1 : decode cX6_comeIn 1 = .ok (.getfield 19, 3) := by decide +kernel
theorem dX6_comeIn_4 : decode cX6_comeIn 4 = .ok (.iload_n 1, 1) := by decide +kernel
theorem dX6_comeIn_5 : decode cX6_comeIn 5 = .ok (.aload_n 0, 1) := by decide +kernel
theorem dX6_comeIn_6 : decode cX6_comeIn 6 = .ok (.getfield 16, 3) := by decide +kernel
theorem dX6_comeIn_9 : decode cX6_comeIn 9 = .ok (.iload_n 1, 1) := by decide +kernel
theorem dX6_comeIn_10 : decode cX6_comeIn 10 = .ok (.iaload, 1) := by decide +kernel
theorem dX6_comeIn_11 : decode cX6_comeIn 11 = .ok (.ifCond .ne 12, 3) := by decide +kernel
theorem dX6_comeIn_14 : decode cX6_comeIn 14 = .ok (.aload_n 0, 1) := by decide +kernel
theorem dX6_comeIn_15 : decode cX6_comeIn 15 = .ok (.iload_n 1, 1) := by decide +kernel
theorem dX6_comeIn_16 : decode cX6_comeIn 16 = .ok (.iload_n 2, 1) := by decide +kernel
theorem dX6_comeIn_17 : decode cX6_comeIn 17 = .ok (.invokevirtual 116, 3) := by decide +kernel
theorem dX6_comeIn_20 : decode cX6_comeIn 20 = .ok (.goto 9, 3) := by decide +kernel
theorem dX6_comeIn_23 : decode cX6_comeIn 23 = .ok (.aload_n 0, 1) := by decide +kernel
theorem dX6_comeIn_24 : decode cX6_comeIn 24 = .ok (.getfield 19, 3) := by decide +kernel
theorem dX6_comeIn_27 : decode cX6_comeIn 27 = .ok (.iload_n 1, 1) := by decide +kernel
theorem dX6_comeIn_28 : decode cX6_comeIn 28 = .ok (.iaload, 1) := by decide +kernel
theorem dX6_comeIn_29 : decode cX6_comeIn 29 = .ok (.iastore, 1) := by decide +kernel
theorem dX6_comeIn_30 : decode cX6_comeIn 30 = .ok (.aload_n 0, 1) := by decide +kernel
theorem dX6_comeIn_31 : decode cX6_comeIn 31 = .ok (.getfield 25, 3) := by decide +kernel
theorem dX6_comeIn_34 : decode cX6_comeIn 34 = .ok (.bipush 8, 2) := by decide +kernel
theorem dX6_comeIn_36 : decode cX6_comeIn 36 = .ok (.iload_n 1, 1) := by decide +kernel
theorem dX6_comeIn_37 : decode cX6_comeIn 37 = .ok (.imul, 1) := by decide +kernel
theorem dX6_comeIn_38 : decode cX6_comeIn 38 = .ok (.aload_n 0, 1) := by decide +kernel
theorem dX6_comeIn_39 : decode cX6_comeIn 39 = .ok (.getfield 16, 3) := by decide +kernel
theorem dX6_comeIn_42 : decode cX6_comeIn 42 = .ok (.iload_n 1, 1) := by decide +kernel
theorem dX6_comeIn_43 : decode cX6_comeIn 43 = .ok (.iaload, 1) := by decide +kernel
theorem dX6_comeIn_44 : decode cX6_comeIn 44 = .ok (.iadd, 1) := by decide +kernel
theorem dX6_comeIn_45 : decode cX6_comeIn 45 = .ok (.iload_n 2, 1) := by decide +kernel
theorem dX6_comeIn_46 : decode cX6_comeIn 46 = .ok (.iastore, 1) := by decide +kernel
theorem dX6_comeIn_47 : decode cX6_comeIn 47 = .ok (.aload_n 0, 1) := by decide +kernel
theorem dX6_comeIn_48 : decode cX6_comeIn 48 = .ok (.getfield 16, 3) := by decide +kernel
theorem dX6_comeIn_51 : decode cX6_comeIn 51 = .ok (.iload_n 1, 1) := by decide +kernel
theorem dX6_comeIn_52 : decode cX6_comeIn 52 = .ok (.dup2, 1) := by decide +kernel
theorem dX6_comeIn_53 : decode cX6_comeIn 53 = .ok (.iaload, 1) := by decide +kernel
theorem dX6_comeIn_54 : decode cX6_comeIn 54 = .ok (.iconst 1, 1) := by decide +kernel
theorem dX6_comeIn_55 : decode cX6_comeIn 55 = .ok (.iadd, 1) := by decide +kernel
theorem dX6_comeIn_56 : decode cX6_comeIn 56 = .ok (.iastore, 1) := by decide +kernel
theorem dX6_comeIn_57 : decode cX6_comeIn 57 = .ok (.return_, 1) := by decide +kernel
theorem dX6_drop_0 : decode cX6_drop 0 = .ok (.iload_n 2, 1) := by decide +kernel
theorem dX6_drop_1 : decode cX6_drop 1 = .ok (.istore_n 3, 1) := by decide +kernel
theorem dX6_drop_2 : decode cX6_drop 2 = .ok (.iload_n 3, 1) := by decide +kernel
theorem dX6_drop_3 : decode cX6_drop 3 = .ok (.iconst 1, 1) := by decide +kernel
theorem dX6_drop_4 : decode cX6_drop 4 = .ok (.iadd, 1) := by decide +kernel
theorem dX6_drop_5 : decode cX6_drop 5 = .ok (.aload_n 0, 1) := by decide +kernel
theorem dX6_drop_6 : decode cX6_drop 6 = .ok (.getfield 16, 3) := by decide +kernel
theorem dX6_drop_9 : decode cX6_drop 9 = .ok (.iload_n 1, 1) := by decide +kernel
theorem dX6_drop_10 : decode cX6_drop 10 = .ok (.iaload, 1) := by decide +kernel
theorem dX6_drop_11 : decode cX6_drop 11 = .ok (.if_icmp .ge 33, 3) := by decide +kernel
theorem dX6_drop_14 : decode cX6_drop 14 = .ok (.aload_n 0, 1) := by decide +kernel
theorem dX6_drop_15 : decode cX6_drop 15 = .ok (.getfield 25, 3) := by decide +kernel
theorem dX6_drop_18 : decode cX6_drop 18 = .ok (.bipush 8, 2) := by decide +kernel
theorem dX6_drop_20 : decode cX6_drop 20 = .ok (.iload_n 1, 1) := by decide +kernel
theorem dX6_drop_21 : decode cX6_drop 21 = .ok (.imul, 1) := by decide +kernel
theorem dX6_drop_22 : decode cX6_drop 22 = .ok (.iload_n 3, 1) := by decide +kernel
theorem dX6_drop_23 : decode cX6_drop 23 = .ok (.iadd, 1) := by decide +kernel
theorem dX6_drop_24 : decode cX6_drop 24 = .ok (.aload_n 0, 1) := by decide +kernel
theorem dX6_drop_25 : decode cX6_drop 25 = .ok (.getfield 25, 3) := by decide +kernel
theorem dX6_drop_28 : decode cX6_drop 28 = .ok (.bipush 8, 2) := by decide +kernel
theorem dX6_drop_30 : decode cX6_drop 30 = .ok (.iload_n 1, 1) := by decide +kernel
theorem dX6_drop_31 : decode cX6_drop 31 = .ok (.imul, 1) := by decide +kernel
theorem dX6_drop_32 : decode cX6_drop 32 = .ok (.iload_n 3, 1) := by decide +kernel
theorem dX6_drop_33 : decode cX6_drop 33 = .ok (.iadd, 1) := by decide +kernel
theorem dX6_drop_34 : decode cX6_drop 34 = .ok (.iconst 1, 1) := by decide +kernel
theorem dX6_drop_35 : decode cX6_drop 35 = .ok (.iadd, 1) := by decide +kernel
theorem dX6_drop_36 : decode cX6_drop 36 = .ok (.iaload, 1) := by decide +kernel
theorem dX6_drop_37 : decode cX6_drop 37 = .ok (.iastore, 1) := by decide +kernel
theorem dX6_drop_38 : decode cX6_drop 38 = .ok (.iinc 3 1, 3) := by decide +kernel
theorem dX6_drop_41 : decode cX6_drop 41 = .ok (.goto (-39), 3) := by decide +kernel
theorem dX6_drop_44 : decode cX6_drop 44 = .ok (.aload_n 0, 1) := by decide +kernel
theorem dX6_drop_45 : decode cX6_drop 45 = .ok (.getfield 16, 3) := by decide +kernel
theorem dX6_drop_48 : decode cX6_drop 48 = .ok (.iload_n 1, 1) := by decide +kernel
theorem dX6_drop_49 : decode cX6_drop 49 = .ok (.dup2, 1) := by decide +kernel
theorem dX6_drop_50 : decode cX6_drop 50 = .ok (.iaload, 1) := by decide +kernel
theorem dX6_drop_51 : decode cX6_drop 51 = .ok (.iconst 1, 1) := by decide +kernel
theorem dX6_drop_52 : decode cX6_drop 52 = .ok (.isub, 1) := by decide +kernel
theorem dX6_drop_53 : decode cX6_drop 53 = .ok (.iastore, 1) := by decide +kernel
theorem dX6_drop_54 : decode cX6_drop 54 = .ok (.return_, 1) := by decide +kernel
theorem dX6_minuteOn_0 : decode cX6_minuteOn 0 = .ok (.iconst 0, 1) := by decide +kernel
theorem dX6_minuteOn_1 : decode cX6_minuteOn 1 = .ok (.istore_n 1, 1) := by decide +kernel
theorem dX6_minuteOn_2 : decode cX6_minuteOn 2 = .ok (.aload_n 0, 1) := by decide +kernel
theorem dX6_minuteOn_3 : decode cX6_minuteOn 3 = .ok (.dup, 1) := by decide +kernel
theorem dX6_minuteOn_4 : decode cX6_minuteOn 4 = .ok (.getfield 126, 3) := by decide +kernel
theorem dX6_minuteOn_7 : decode cX6_minuteOn 7 = .ok (.iconst 1, 1) := by decide +kernel
theorem dX6_minuteOn_8 : decode cX6_minuteOn 8 = .ok (.iadd, 1) := by decide +kernel
theorem dX6_minuteOn_9 : decode cX6_minuteOn 9 = .ok (.putfield 126, 3) := by decide +kernel
theorem dX6_minuteOn_12 : decode cX6_minuteOn 12 = .ok (.iconst 0, 1) := by decide +kernel
theorem dX6_minuteOn_13 : decode cX6_minuteOn 13 = .ok (.istore_n 2, 1) := by decide +kernel
theorem dX6_minuteOn_14 : decode cX6_minuteOn 14 = .ok (.iload_n 2, 1) := by decide +kernel
theorem dX6_minuteOn_15 : decode cX6_minuteOn 15 = .ok (.aload_n 0, 1) := by decide +kernel
theorem dX6_minuteOn_16 : decode cX6_minuteOn 16 = .ok (.getfield 97, 3) := by decide +kernel
theorem dX6_minuteOn_19 : decode cX6_minuteOn 19 = .ok (.if_icmp .ge 103, 3) := by decide +kernel
theorem dX6_minuteOn_22 : decode cX6_minuteOn 22 = .ok (.aload_n 0, 1) := by decide +kernel
theorem dX6_minuteOn_23 : decode cX6_minuteOn 23 = .ok (.getfield 28, 3) := by decide +kernel
theorem dX6_minuteOn_26 : decode cX6_minuteOn 26 = .ok (.iload_n 2, 1) := by decide +kernel
theorem dX6_minuteOn_27 : decode cX6_minuteOn 27 = .ok (.iconst 0, 1) := by decide +kernel
theorem dX6_minuteOn_28 : decode cX6_minuteOn 28 = .ok (.bastore, 1) := by decide +kernel
theorem dX6_minuteOn_29 : decode cX6_minuteOn 29 = .ok (.aload_n 0, 1) := by decide +kernel
theorem dX6_minuteOn_30 : decode cX6_minuteOn 30 = .ok (.getfield 16, 3) := by decide +kernel
theorem dX6_minuteOn_33 : decode cX6_minuteOn 33 = .ok (.iload_n 2, 1) := by decide +kernel
theorem dX6_minuteOn_34 : decode cX6_minuteOn 34 = .ok (.iaload, 1) := by decide +kernel
theorem dX6_minuteOn_35 : decode cX6_minuteOn 35 = .ok (.ifCond .le 81, 3) := by decide +kernel
theorem dX6_minuteOn_38 : decode cX6_minuteOn 38 = .ok (.aload_n 0, 1) := by decide +kernel
theorem dX6_minuteOn_39 : decode cX6_minuteOn 39 = .ok (.getfield 19, 3) := by decide +kernel
theorem dX6_minuteOn_42 : decode cX6_minuteOn 42 = .ok (.iload_n 2, 1) := by decide +kernel
theorem dX6_minuteOn_43 : decode cX6_minuteOn 43 = .ok (.dup2, 1) := by decide +kernel
theorem dX6_minuteOn_44 : decode cX6_minuteOn 44 = .ok (.iaload, 1) := by decide +kernel
theorem dX6_minuteOn_45 : decode cX6_minuteOn 45 = .ok (.iconst 1, 1) := by decide +kernel
theorem dX6_minuteOn_46 : decode cX6_minuteOn 46 = .ok (.isub, 1) := by decide +kernel
theorem dX6_minuteOn_47 : decode cX6_minuteOn 47 = .ok (.iastore, 1) := by decide +kernel
theorem dX6_minuteOn_48 : decode cX6_minuteOn 48 = .ok (.aload_n 0, 1) := by decide +kernel
theorem dX6_minuteOn_49 : decode cX6_minuteOn 49 = .ok (.getfield 19, 3) := by decide +kernel
theorem dX6_minuteOn_52 : decode cX6_minuteOn 52 = .ok (.iload_n 2, 1) := by decide +kernel
theorem dX6_minuteOn_53 : decode cX6_minuteOn 53 = .ok (.iaload, 1) := by decide +kernel
theorem dX6_minuteOn_54 : decode cX6_minuteOn 54 = .ok (.ifCond .ne 62, 3) := by decide +kernel
theorem dX6_minuteOn_57 : decode cX6_minuteOn 57 = .ok (.aload_n 0, 1) := by decide +kernel
theorem dX6_minuteOn_58 : decode cX6_minuteOn 58 = .ok (.iload_n 2, 1) := by decide +kernel
theorem dX6_minuteOn_59 : decode cX6_minuteOn 59 = .ok (.iconst 0, 1) := by decide +kernel
theorem dX6_minuteOn_60 : decode cX6_minuteOn 60 = .ok (.invokevirtual 129, 3) := by decide +kernel
theorem dX6_minuteOn_63 : decode cX6_minuteOn 63 = .ok (.aload_n 0, 1) := by decide +kernel
theorem dX6_minuteOn_64 : decode cX6_minuteOn 64 = .ok (.getfield 19, 3) := by decide +kernel
theorem dX6_minuteOn_67 : decode cX6_minuteOn 67 = .ok (.iload_n 2, 1) := by decide +kernel
theorem dX6_minuteOn_68 : decode cX6_minuteOn 68 = .ok (.aload_n 0, 1) := by decide +kernel
theorem dX6_minuteOn_69 : decode cX6_minuteOn 69 = .ok (.getfield 16, 3) := by decide +kernel
theorem dX6_minuteOn_72 : decode cX6_minuteOn 72 = .ok (.iload_n 2, 1) := by decide +kernel
theorem dX6_minuteOn_73 : decode cX6_minuteOn 73 = .ok (.iaload, 1) := by decide +kernel
theorem dX6_minuteOn_74 : decode cX6_minuteOn 74 = .ok (.ifCond .le 20, 3) := by decide +kernel
theorem dX6_minuteOn_77 : decode cX6_minuteOn 77 = .ok (.aload_n 0, 1) := by decide +kernel
theorem dX6_minuteOn_78 : decode cX6_minuteOn 78 = .ok (.iload_n 2, 1) := by decide +kernel
theorem dX6_minuteOn_79 : decode cX6_minuteOn 79 = .ok (.aload_n 0, 1) := by decide +kernel
theorem dX6_minuteOn_80 : decode cX6_minuteOn 80 = .ok (.getfield 25, 3) := by decide +kernel
theorem dX6_minuteOn_83 : decode cX6_minuteOn 83 = .ok (.bipush 8, 2) := by decide +kernel
theorem dX6_minuteOn_85 : decode cX6_minuteOn 85 = .ok (.iload_n 2, 1) := by decide +kernel
theorem dX6_minuteOn_86 : decode cX6_minuteOn 86 = .ok (.imul, 1) := by decide +kernel
theorem dX6_minuteOn_87 : decode cX6_minuteOn 87 = .ok (.iaload, 1) := by decide +kernel
theorem dX6_minuteOn_88 : decode cX6_minuteOn 88 = .ok (.invokevirtual 116, 3) := by decide +kernel
theorem dX6_minuteOn_91 : decode cX6_minuteOn 91 = .ok (.goto 4, 3) := by decide +kernel
theorem dX6_minuteOn_94 : decode cX6_minuteOn 94 = .ok (.iconst 0, 1) := by decide +kernel
theorem dX6_minuteOn_95 : decode cX6_minuteOn 95 = .ok (.iastore, 1) := by decide +kernel
theorem dX6_minuteOn_96 : decode cX6_minuteOn 96 = .ok (.aload_n 0, 1) := by decide +kernel
theorem dX6_minuteOn_97 : decode cX6_minuteOn 97 = .ok (.getfield 22, 3) := by decide +kernel
theorem dX6_minuteOn_100 : decode cX6_minuteOn 100 = .ok (.iload_n 2, 1) := by decide +kernel
theorem dX6_minuteOn_101 : decode cX6_minuteOn 101 = .ok (.dup2, 1) := by decide +kernel
theorem dX6_minuteOn_102 : decode cX6_minuteOn 102 = .ok (.iaload, 1) := by decide +kernel
theorem dX6_minuteOn_103 : decode cX6_minuteOn 103 = .ok (.iconst 1, 1) := by decide +kernel
theorem dX6_minuteOn_104 : decode cX6_minuteOn 104 = .ok (.iadd, 1) := by decide +kernel
theorem dX6_minuteOn_105 : decode cX6_minuteOn 105 = .ok (.iastore, 1) := by decide +kernel
theorem dX6_minuteOn_106 : decode cX6_minuteOn 106 = .ok (.aload_n 0, 1) := by decide +kernel
theorem dX6_minuteOn_107 : decode cX6_minuteOn 107 = .ok (.getfield 28, 3) := by decide +kernel
theorem dX6_minuteOn_110 : decode cX6_minuteOn 110 = .ok (.iload_n 2, 1) := by decide +kernel
theorem dX6_minuteOn_111 : decode cX6_minuteOn 111 = .ok (.iconst 1, 1) := by decide +kernel
theorem dX6_minuteOn_112 : decode cX6_minuteOn 112 = .ok (.bastore, 1) := by decide +kernel
theorem dX6_minuteOn_113 : decode cX6_minuteOn 113 = .ok (.iinc 1 1, 3) := by decide +kernel
theorem dX6_minuteOn_116 : decode cX6_minuteOn 116 = .ok (.iinc 2 1, 3) := by decide +kernel
theorem dX6_minuteOn_119 : decode cX6_minuteOn 119 = .ok (.goto (-105), 3) := by decide +kernel
theorem dX6_minuteOn_122 : decode cX6_minuteOn 122 = .ok (.aload_n 0, 1) := by decide +kernel
theorem dX6_minuteOn_123 : decode cX6_minuteOn 123 = .ok (.dup, 1) := by decide +kernel
theorem dX6_minuteOn_124 : decode cX6_minuteOn 124 = .ok (.getfield 133, 3) := by decide +kernel
theorem dX6_minuteOn_127 : decode cX6_minuteOn 127 = .ok (.iload_n 1, 1) := by decide +kernel
theorem dX6_minuteOn_128 : decode cX6_minuteOn 128 = .ok (.iadd, 1) := by decide +kernel
theorem dX6_minuteOn_129 : decode cX6_minuteOn 129 = .ok (.putfield 133, 3) := by decide +kernel
theorem dX6_minuteOn_132 : decode cX6_minuteOn 132 = .ok (.iload_n 1, 1) := by decide +kernel
theorem dX6_minuteOn_133 : decode cX6_minuteOn 133 = .ok (.ireturn, 1) := by decide +kernel
theorem dX6_goBy_0 : decode cX6_goBy 0 = .ok (.iconst 0, 1) := by decide +kernel
theorem dX6_goBy_1 : decode cX6_goBy 1 = .ok (.istore_n 2, 1) := by decide +kernel
theorem dX6_goBy_2 : decode cX6_goBy 2 = .ok (.iconst 0, 1) := by decide +kernel
theorem dX6_goBy_3 : decode cX6_goBy 3 = .ok (.istore_n 3, 1) := by decide +kernel
theorem dX6_goBy_4 : decode cX6_goBy 4 = .ok (.iload_n 3, 1) := by decide +kernel
theorem dX6_goBy_5 : decode cX6_goBy 5 = .ok (.iload_n 1, 1) := by decide +kernel
theorem dX6_goBy_6 : decode cX6_goBy 6 = .ok (.if_icmp .ge 16, 3) := by decide +kernel
theorem dX6_goBy_9 : decode cX6_goBy 9 = .ok (.iload_n 2, 1) := by decide +kernel
theorem dX6_goBy_10 : decode cX6_goBy 10 = .ok (.aload_n 0, 1) := by decide +kernel
theorem dX6_goBy_11 : decode cX6_goBy 11 = .ok (.invokevirtual 136, 3) := by decide +kernel
theorem dX6_goBy_14 : decode cX6_goBy 14 = .ok (.iadd, 1) := by decide +kernel
theorem dX6_goBy_15 : decode cX6_goBy 15 = .ok (.istore_n 2, 1) := by decide +kernel
theorem dX6_goBy_16 : decode cX6_goBy 16 = .ok (.iinc 3 1, 3) := by decide +kernel
theorem dX6_goBy_19 : decode cX6_goBy 19 = .ok (.goto (-15), 3) := by decide +kernel
theorem dX6_goBy_22 : decode cX6_goBy 22 = .ok (.iload_n 2, 1) := by decide +kernel
theorem dX6_goBy_23 : decode cX6_goBy 23 = .ok (.ireturn, 1) := by decide +kernel
theorem dX6_carry_0 : decode cX6_carry 0 = .ok (.aload_n 0, 1) := by decide +kernel
theorem dX6_carry_1 : decode cX6_carry 1 = .ok (.getfield 140, 3) := by decide +kernel
theorem dX6_carry_4 : decode cX6_carry 4 = .ok (.ifCond .eq 13, 3) := by decide +kernel
theorem dX6_carry_7 : decode cX6_carry 7 = .ok (.aload_n 0, 1) := by decide +kernel
theorem dX6_carry_8 : decode cX6_carry 8 = .ok (.getfield 144, 3) := by decide +kernel
theorem dX6_carry_11 : decode cX6_carry 11 = .ok (.aload_n 0, 1) := by decide +kernel
theorem dX6_carry_12 : decode cX6_carry 12 = .ok (.getfield 147, 3) := by decide +kernel
theorem dX6_carry_15 : decode cX6_carry 15 = .ok (.iload_n 1, 1) := by decide +kernel
theorem dX6_carry_16 : decode cX6_carry 16 = .ok (.iastore, 1) := by decide +kernel
theorem dX6_carry_17 : decode cX6_carry 17 = .ok (.aload_n 0, 1) := by decide +kernel
theorem dX6_carry_18 : decode cX6_carry 18 = .ok (.dup, 1) := by decide +kernel
theorem dX6_carry_19 : decode cX6_carry 19 = .ok (.getfield 147, 3) := by decide +kernel
theorem dX6_carry_22 : decode cX6_carry 22 = .ok (.iconst 1, 1) := by decide +kernel
theorem dX6_carry_23 : decode cX6_carry 23 = .ok (.iadd, 1) := by decide +kernel
theorem dX6_carry_24 : decode cX6_carry 24 = .ok (.putfield 147, 3) := by decide +kernel
theorem dX6_carry_27 : decode cX6_carry 27 = .ok (.aload_n 0, 1) := by decide +kernel
theorem dX6_carry_28 : decode cX6_carry 28 = .ok (.getfield 144, 3) := by decide +kernel
theorem dX6_carry_31 : decode cX6_carry 31 = .ok (.aload_n 0, 1) := by decide +kernel
theorem dX6_carry_32 : decode cX6_carry 32 = .ok (.getfield 147, 3) := by decide +kernel
theorem dX6_carry_35 : decode cX6_carry 35 = .ok (.iconst 1, 1) := by decide +kernel
theorem dX6_carry_36 : decode cX6_carry 36 = .ok (.isub, 1) := by decide +kernel
theorem dX6_carry_37 : decode cX6_carry 37 = .ok (.iaload, 1) := by decide +kernel
theorem dX6_carry_38 : decode cX6_carry 38 = .ok (.ireturn, 1) := by decide +kernel
theorem dX6_carryAll_0 : decode cX6_carryAll 0 = .ok (.aload_n 0, 1) := by decide +kernel
theorem dX6_carryAll_1 : decode cX6_carryAll 1 = .ok (.aload_n 1, 1) := by decide +kernel
theorem dX6_carryAll_2 : decode cX6_carryAll 2 = .ok (.putfield 144, 3) := by decide +kernel
theorem dX6_carryAll_5 : decode cX6_carryAll 5 = .ok (.aload_n 0, 1) := by decide +kernel
theorem dX6_carryAll_6 : decode cX6_carryAll 6 = .ok (.iload_n 2, 1) := by decide +kernel
theorem dX6_carryAll_7 : decode cX6_carryAll 7 = .ok (.putfield 140, 3) := by decide +kernel
theorem dX6_carryAll_10 : decode cX6_carryAll 10 = .ok (.aload_n 0, 1) := by decide +kernel
theorem dX6_carryAll_11 : decode cX6_carryAll 11 = .ok (.iconst 0, 1) := by decide +kernel
theorem dX6_carryAll_12 : decode cX6_carryAll 12 = .ok (.putfield 147, 3) := by decide +kernel
theorem dX6_carryAll_15 : decode cX6_carryAll 15 = .ok (.aload_n 0, 1) := by decide +kernel
theorem dX6_carryAll_16 : decode cX6_carryAll 16 = .ok (.aload_n 0, 1) := by decide +kernel
theorem dX6_carryAll_17 : decode cX6_carryAll 17 = .ok (.aload_n 0, 1) := by decide +kernel
theorem dX6_carryAll_18 : decode cX6_carryAll 18 = .ok (.getfield 97, 3) := by decide +kernel
theorem dX6_carryAll_21 : decode cX6_carryAll 21 = .ok (.invokevirtual 150, 3) := by decide +kernel
theorem dX6_carryAll_24 : decode cX6_carryAll 24 = .ok (.putfield 97, 3) := by decide +kernel
theorem dX6_carryAll_27 : decode cX6_carryAll 27 = .ok (.aload_n 0, 1) := by decide +kernel
theorem dX6_carryAll_28 : decode cX6_carryAll 28 = .ok (.aload_n 0, 1) := by decide +kernel
theorem dX6_carryAll_29 : decode cX6_carryAll 29 = .ok (.aload_n 0, 1) := by decide +kernel
theorem dX6_carryAll_30 : decode cX6_carryAll 30 = .ok (.getfield 126, 3) := by decide +kernel
theorem dX6_carryAll_33 : decode cX6_carryAll 33 = .ok (.invokevirtual 150, 3) := by decide +kernel
theorem dX6_carryAll_36 : decode cX6_carryAll 36 = .ok (.putfield 126, 3) := by decide +kernel
theorem dX6_carryAll_39 : decode cX6_carryAll 39 = .ok (.aload_n 0, 1) := by decide +kernel
theorem dX6_carryAll_40 : decode cX6_carryAll 40 = .ok (.aload_n 0, 1) := by decide +kernel
theorem dX6_carryAll_41 : decode cX6_carryAll 41 = .ok (.aload_n 0, 1) := by decide +kernel
theorem dX6_carryAll_42 : decode cX6_carryAll 42 = .ok (.getfield 133, 3) := by decide +kernel
theorem dX6_carryAll_45 : decode cX6_carryAll 45 = .ok (.invokevirtual 150, 3) := by decide +kernel
theorem dX6_carryAll_48 : decode cX6_carryAll 48 = .ok (.putfield 133, 3) := by decide +kernel
theorem dX6_carryAll_51 : decode cX6_carryAll 51 = .ok (.iconst 0, 1) := by decide +kernel
theorem dX6_carryAll_52 : decode cX6_carryAll 52 = .ok (.istore_n 3, 1) := by decide +kernel
theorem dX6_carryAll_53 : decode cX6_carryAll 53 = .ok (.iload_n 3, 1) := by decide +kernel
theorem dX6_carryAll_54 : decode cX6_carryAll 54 = .ok (.iconst 5, 1) := by decide +kernel
theorem dX6_carryAll_55 : decode cX6_carryAll 55 = .ok (.if_icmp .ge 89, 3) := by decide +kernel
theorem dX6_carryAll_58 : decode cX6_carryAll 58 = .ok (.aload_n 0, 1) := by decide +kernel
theorem dX6_carryAll_59 : decode cX6_carryAll 59 = .ok (.getfield 7, 3) := by decide +kernel
theorem dX6_carryAll_62 : decode cX6_carryAll 62 = .ok (.iload_n 3, 1) := by decide +kernel
theorem dX6_carryAll_63 : decode cX6_carryAll 63 = .ok (.aload_n 0, 1) := by decide +kernel
theorem dX6_carryAll_64 : decode cX6_carryAll 64 = .ok (.aload_n 0, 1) := by decide +kernel
theorem dX6_carryAll_65 : decode cX6_carryAll 65 = .ok (.getfield 7, 3) := by decide +kernel
theorem dX6_carryAll_68 : decode cX6_carryAll 68 = .ok (.iload_n 3, 1) := by decide +kernel
theorem dX6_carryAll_69 : decode cX6_carryAll 69 = .ok (.iaload, 1) := by decide +kernel
theorem dX6_carryAll_70 : decode cX6_carryAll 70 = .ok (.invokevirtual 150, 3) := by decide +kernel
theorem dX6_carryAll_73 : decode cX6_carryAll 73 = .ok (.iastore, 1) := by decide +kernel
theorem dX6_carryAll_74 : decode cX6_carryAll 74 = .ok (.aload_n 0, 1) := by decide +kernel
theorem dX6_carryAll_75 : decode cX6_carryAll 75 = .ok (.getfield 13, 3) := by decide +kernel
theorem dX6_carryAll_78 : decode cX6_carryAll 78 = .ok (.iload_n 3, 1) := by decide +kernel
theorem dX6_carryAll_79 : decode cX6_carryAll 79 = .ok (.aload_n 0, 1) := by decide +kernel
theorem dX6_carryAll_80 : decode cX6_carryAll 80 = .ok (.aload_n 0, 1) := by decide +kernel
theorem dX6_carryAll_81 : decode cX6_carryAll 81 = .ok (.getfield 13, 3) := by decide +kernel
theorem dX6_carryAll_84 : decode cX6_carryAll 84 = .ok (.iload_n 3, 1) := by decide +kernel
theorem dX6_carryAll_85 : decode cX6_carryAll 85 = .ok (.iaload, 1) := by decide +kernel
theorem dX6_carryAll_86 : decode cX6_carryAll 86 = .ok (.invokevirtual 150, 3) := by decide +kernel
theorem dX6_carryAll_89 : decode cX6_carryAll 89 = .ok (.iastore, 1) := by decide +kernel
theorem dX6_carryAll_90 : decode cX6_carryAll 90 = .ok (.aload_n 0, 1) := by decide +kernel
theorem dX6_carryAll_91 : decode cX6_carryAll 91 = .ok (.getfield 16, 3) := by decide +kernel
theorem dX6_carryAll_94 : decode cX6_carryAll 94 = .ok (.iload_n 3, 1) := by decide +kernel
theorem dX6_carryAll_95 : decode cX6_carryAll 95 = .ok (.aload_n 0, 1) := by decide +kernel
theorem dX6_carryAll_96 : decode cX6_carryAll 96 = .ok (.aload_n 0, 1) := by decide +kernel
theorem dX6_carryAll_97 : decode cX6_carryAll 97 = .ok (.getfield 16, 3) := by decide +kernel
theorem dX6_carryAll_100 : decode cX6_carryAll 100 = .ok (.iload_n 3, 1) := by decide +kernel
theorem dX6_carryAll_101 : decode cX6_carryAll 101 = .ok (.iaload, 1) := by decide +kernel
theorem dX6_carryAll_102 : decode cX6_carryAll 102 = .ok (.invokevirtual 150, 3) := by decide +kernel
theorem dX6_carryAll_105 : decode cX6_carryAll 105 = .ok (.iastore, 1) := by decide +kernel
theorem dX6_carryAll_106 : decode cX6_carryAll 106 = .ok (.aload_n 0, 1) := by decide +kernel
theorem dX6_carryAll_107 : decode cX6_carryAll 107 = .ok (.getfield 19, 3) := by decide +kernel
theorem dX6_carryAll_110 : decode cX6_carryAll 110 = .ok (.iload_n 3, 1) := by decide +kernel
theorem dX6_carryAll_111 : decode cX6_carryAll 111 = .ok (.aload_n 0, 1) := by decide +kernel
theorem dX6_carryAll_112 : decode cX6_carryAll 112 = .ok (.aload_n 0, 1) := by decide +kernel
theorem dX6_carryAll_113 : decode cX6_carryAll 113 = .ok (.getfield 19, 3) := by decide +kernel
theorem dX6_carryAll_116 : decode cX6_carryAll 116 = .ok (.iload_n 3, 1) := by decide +kernel
theorem dX6_carryAll_117 : decode cX6_carryAll 117 = .ok (.iaload, 1) := by decide +kernel
theorem dX6_carryAll_118 : decode cX6_carryAll 118 = .ok (.invokevirtual 150, 3) := by decide +kernel
theorem dX6_carryAll_121 : decode cX6_carryAll 121 = .ok (.iastore, 1) := by decide +kernel
theorem dX6_carryAll_122 : decode cX6_carryAll 122 = .ok (.aload_n 0, 1) := by decide +kernel
theorem dX6_carryAll_123 : decode cX6_carryAll 123 = .ok (.getfield 22, 3) := by decide +kernel
theorem dX6_carryAll_126 : decode cX6_carryAll 126 = .ok (.iload_n 3, 1) := by decide +kernel
theorem dX6_carryAll_127 : decode cX6_carryAll 127 = .ok (.aload_n 0, 1) := by decide +kernel
theorem dX6_carryAll_128 : decode cX6_carryAll 128 = .ok (.aload_n 0, 1) := by decide +kernel
theorem dX6_carryAll_129 : decode cX6_carryAll 129 = .ok (.getfield 22, 3) := by decide +kernel
theorem dX6_carryAll_132 : decode cX6_carryAll 132 = .ok (.iload_n 3, 1) := by decide +kernel
theorem dX6_carryAll_133 : decode cX6_carryAll 133 = .ok (.iaload, 1) := by decide +kernel
theorem dX6_carryAll_134 : decode cX6_carryAll 134 = .ok (.invokevirtual 150, 3) := by decide +kernel
theorem dX6_carryAll_137 : decode cX6_carryAll 137 = .ok (.iastore, 1) := by decide +kernel
theorem dX6_carryAll_138 : decode cX6_carryAll 138 = .ok (.iinc 3 1, 3) := by decide +kernel
theorem dX6_carryAll_141 : decode cX6_carryAll 141 = .ok (.goto (-88), 3) := by decide +kernel
theorem dX6_carryAll_144 : decode cX6_carryAll 144 = .ok (.iconst 0, 1) := by decide +kernel
theorem dX6_carryAll_145 : decode cX6_carryAll 145 = .ok (.istore_n 3, 1) := by decide +kernel
theorem dX6_carryAll_146 : decode cX6_carryAll 146 = .ok (.iload_n 3, 1) := by decide +kernel
theorem dX6_carryAll_147 : decode cX6_carryAll 147 = .ok (.bipush 40, 2) := by decide +kernel
theorem dX6_carryAll_149 : decode cX6_carryAll 149 = .ok (.if_icmp .ge 25, 3) := by decide +kernel
theorem dX6_carryAll_152 : decode cX6_carryAll 152 = .ok (.aload_n 0, 1) := by decide +kernel
theorem dX6_carryAll_153 : decode cX6_carryAll 153 = .ok (.getfield 25, 3) := by decide +kernel
theorem dX6_carryAll_156 : decode cX6_carryAll 156 = .ok (.iload_n 3, 1) := by decide +kernel
theorem dX6_carryAll_157 : decode cX6_carryAll 157 = .ok (.aload_n 0, 1) := by decide +kernel
theorem dX6_carryAll_158 : decode cX6_carryAll 158 = .ok (.aload_n 0, 1) := by decide +kernel
theorem dX6_carryAll_159 : decode cX6_carryAll 159 = .ok (.getfield 25, 3) := by decide +kernel
theorem dX6_carryAll_162 : decode cX6_carryAll 162 = .ok (.iload_n 3, 1) := by decide +kernel
theorem dX6_carryAll_163 : decode cX6_carryAll 163 = .ok (.iaload, 1) := by decide +kernel
theorem dX6_carryAll_164 : decode cX6_carryAll 164 = .ok (.invokevirtual 150, 3) := by decide +kernel
theorem dX6_carryAll_167 : decode cX6_carryAll 167 = .ok (.iastore, 1) := by decide +kernel
theorem dX6_carryAll_168 : decode cX6_carryAll 168 = .ok (.iinc 3 1, 3) := by decide +kernel
theorem dX6_carryAll_171 : decode cX6_carryAll 171 = .ok (.goto (-25), 3) := by decide +kernel
theorem dX6_carryAll_174 : decode cX6_carryAll 174 = .ok (.return_, 1) := by decide +kernel
theorem dX6_open_0 : decode cX6_open 0 = .ok (.aload_n 0, 1) := by decide +kernel
theorem dX6_open_1 : decode cX6_open 1 = .ok (.aload_n 0, 1) := by decide +kernel
theorem dX6_open_2 : decode cX6_open 2 = .ok (.getfield 32, 3) := by decide +kernel
theorem dX6_open_5 : decode cX6_open 5 = .ok (.iconst 1, 1) := by decide +kernel
theorem dX6_open_6 : decode cX6_open 6 = .ok (.invokevirtual 153, 3) := by decide +kernel
theorem dX6_open_9 : decode cX6_open 9 = .ok (.return_, 1) := by decide +kernel
theorem dX6_close_0 : decode cX6_close 0 = .ok (.aload_n 0, 1) := by decide +kernel
theorem dX6_close_1 : decode cX6_close 1 = .ok (.aload_n 0, 1) := by decide +kernel
theorem dX6_close_2 : decode cX6_close 2 = .ok (.getfield 32, 3) := by decide +kernel
theorem dX6_close_5 : decode cX6_close 5 = .ok (.iconst 0, 1) := by decide +kernel
theorem dX6_close_6 : decode cX6_close 6 = .ok (.invokevirtual 153, 3) := by decide +kernel
theorem dX6_close_9 : decode cX6_close 9 = .ok (.return_, 1) := by decide +kernel
theorem dX6_image_0 : decode cX6_image 0 = .ok (.aload_n 0, 1) := by decide +kernel
theorem dX6_image_1 : decode cX6_image 1 = .ok (.iconst 0, 1) := by decide +kernel
theorem dX6_image_2 : decode cX6_image 2 = .ok (.putfield 93, 3) := by decide +kernel
theorem dX6_image_5 : decode cX6_image 5 = .ok (.aload_n 0, 1) := by decide +kernel
theorem dX6_image_6 : decode cX6_image 6 = .ok (.iconst 1, 1) := by decide +kernel
theorem dX6_image_7 : decode cX6_image 7 = .ok (.putfield 157, 3) := by decide +kernel
theorem dX6_image_10 : decode cX6_image 10 = .ok (.aload_n 0, 1) := by decide +kernel
theorem dX6_image_11 : decode cX6_image 11 = .ok (.aload_n 0, 1) := by decide +kernel
theorem dX6_image_12 : decode cX6_image 12 = .ok (.getfield 35, 3) := by decide +kernel
theorem dX6_image_15 : decode cX6_image 15 = .ok (.iconst 1, 1) := by decide +kernel
theorem dX6_image_16 : decode cX6_image 16 = .ok (.invokevirtual 153, 3) := by decide +kernel
theorem dX6_image_19 : decode cX6_image 19 = .ok (.aload_n 0, 1) := by decide +kernel
theorem dX6_image_20 : decode cX6_image 20 = .ok (.getfield 126, 3) := by decide +kernel
theorem dX6_image_23 : decode cX6_image 23 = .ok (.ireturn, 1) := by decide +kernel
theorem dX6_restore_0 : decode cX6_restore 0 = .ok (.aload_n 0, 1) := by decide +kernel
theorem dX6_restore_1 : decode cX6_restore 1 = .ok (.iconst 0, 1) := by decide +kernel
theorem dX6_restore_2 : decode cX6_restore 2 = .ok (.putfield 93, 3) := by decide +kernel
theorem dX6_restore_5 : decode cX6_restore 5 = .ok (.aload_n 0, 1) := by decide +kernel
theorem dX6_restore_6 : decode cX6_restore 6 = .ok (.getfield 157, 3) := by decide +kernel
theorem dX6_restore_9 : decode cX6_restore 9 = .ok (.ifCond .ne 6, 3) := by decide +kernel
theorem dX6_restore_12 : decode cX6_restore 12 = .ok (.bipush (-3), 2) := by decide +kernel
theorem dX6_restore_14 : decode cX6_restore 14 = .ok (.ireturn, 1) := by decide +kernel
theorem dX6_restore_15 : decode cX6_restore 15 = .ok (.aload_n 0, 1) := by decide +kernel
theorem dX6_restore_16 : decode cX6_restore 16 = .ok (.aload_n 0, 1) := by decide +kernel
theorem dX6_restore_17 : decode cX6_restore 17 = .ok (.getfield 35, 3) := by decide +kernel
theorem dX6_restore_20 : decode cX6_restore 20 = .ok (.iconst 0, 1) := by decide +kernel
theorem dX6_restore_21 : decode cX6_restore 21 = .ok (.invokevirtual 153, 3) := by decide +kernel
theorem dX6_restore_24 : decode cX6_restore 24 = .ok (.aload_n 0, 1) := by decide +kernel
theorem dX6_restore_25 : decode cX6_restore 25 = .ok (.getfield 126, 3) := by decide +kernel
theorem dX6_restore_28 : decode cX6_restore 28 = .ok (.ireturn, 1) := by decide +kernel
theorem dX6_here_0 : decode cX6_here 0 = .ok (.aload_n 0, 1) := by decide +kernel
theorem dX6_here_1 : decode cX6_here 1 = .ok (.getfield 160, 3) := by decide +kernel
theorem dX6_here_4 : decode cX6_here 4 = .ok (.aload_n 0, 1) := by decide +kernel
theorem dX6_here_5 : decode cX6_here 5 = .ok (.getfield 163, 3) := by decide +kernel
theorem dX6_here_8 : decode cX6_here 8 = .ok (.if_icmp .lt 7, 3) := by decide +kernel
theorem dX6_here_11 : decode cX6_here 11 = .ok (.iconst (-1), 1) := by decide +kernel
theorem dX6_here_12 : decode cX6_here 12 = .ok (.goto 22, 3) := by decide +kernel
theorem dX6_here_15 : decode cX6_here 15 = .ok (.aload_n 0, 1) := by decide +kernel
theorem dX6_here_16 : decode cX6_here 16 = .ok (.getfield 86, 3) := by decide +kernel
theorem dX6_here_19 : decode cX6_here 19 = .ok (.aload_n 0, 1) := by decide +kernel
theorem dX6_here_20 : decode cX6_here 20 = .ok (.getfield 166, 3) := by decide +kernel
theorem dX6_here_23 : decode cX6_here 23 = .ok (.aload_n 0, 1) := by decide +kernel
theorem dX6_here_24 : decode cX6_here 24 = .ok (.getfield 160, 3) := by decide +kernel
theorem dX6_here_27 : decode cX6_here 27 = .ok (.iadd, 1) := by decide +kernel
theorem dX6_here_28 : decode cX6_here 28 = .ok (.laload, 1) := by decide +kernel
theorem dX6_here_29 : decode cX6_here 29 = .ok (.l2i, 1) := by decide +kernel
theorem dX6_here_30 : decode cX6_here 30 = .ok (.sipush 255, 3) := by decide +kernel
theorem dX6_here_33 : decode cX6_here 33 = .ok (.iand, 1) := by decide +kernel
theorem dX6_here_34 : decode cX6_here 34 = .ok (.ireturn, 1) := by decide +kernel
theorem dX6_readDigit_0 : decode cX6_readDigit 0 = .ok (.aload_n 0, 1) := by decide +kernel
theorem dX6_readDigit_1 : decode cX6_readDigit 1 = .ok (.aload_n 0, 1) := by decide +kernel
theorem dX6_readDigit_2 : decode cX6_readDigit 2 = .ok (.getfield 169, 3) := by decide +kernel
theorem dX6_readDigit_5 : decode cX6_readDigit 5 = .ok (.ifCond .ne 20, 3) := by decide +kernel
theorem dX6_readDigit_8 : decode cX6_readDigit 8 = .ok (.aload_n 0, 1) := by decide +kernel
theorem dX6_readDigit_9 : decode cX6_readDigit 9 = .ok (.invokevirtual 172, 3) := by decide +kernel
theorem dX6_readDigit_12 : decode cX6_readDigit 12 = .ok (.i2l, 1) := by decide +kernel
theorem dX6_readDigit_13 : decode cX6_readDigit 13 = .ok (.ldc2_w 175, 3) := by decide +kernel
theorem dX6_readDigit_16 : decode cX6_readDigit 16 = .ok (.ldc2_w 177, 3) := by decide +kernel
theorem dX6_readDigit_19 : decode cX6_readDigit 19 = .ok (.invokestatic 100, 3) := by decide +kernel
theorem dX6_readDigit_22 : decode cX6_readDigit 22 = .ok (.ifCond .ne 7, 3) := by decide +kernel
theorem dX6_readDigit_25 : decode cX6_readDigit 25 = .ok (.iconst 1, 1) := by decide +kernel
theorem dX6_readDigit_26 : decode cX6_readDigit 26 = .ok (.goto 4, 3) := by decide +kernel
theorem dX6_readDigit_29 : decode cX6_readDigit 29 = .ok (.iconst 0, 1) := by decide +kernel
theorem dX6_readDigit_30 : decode cX6_readDigit 30 = .ok (.putfield 169, 3) := by decide +kernel
theorem dX6_readDigit_33 : decode cX6_readDigit 33 = .ok (.aload_n 0, 1) := by decide +kernel
theorem dX6_readDigit_34 : decode cX6_readDigit 34 = .ok (.getfield 169, 3) := by decide +kernel
theorem dX6_readDigit_37 : decode cX6_readDigit 37 = .ok (.ifCond .eq 5, 3) := by decide +kernel
theorem dX6_readDigit_40 : decode cX6_readDigit 40 = .ok (.iconst 0, 1) := by decide +kernel
theorem dX6_readDigit_41 : decode cX6_readDigit 41 = .ok (.ireturn, 1) := by decide +kernel
theorem dX6_readDigit_42 : decode cX6_readDigit 42 = .ok (.aload_n 0, 1) := by decide +kernel
theorem dX6_readDigit_43 : decode cX6_readDigit 43 = .ok (.dup, 1) := by decide +kernel
theorem dX6_readDigit_44 : decode cX6_readDigit 44 = .ok (.getfield 160, 3) := by decide +kernel
theorem dX6_readDigit_47 : decode cX6_readDigit 47 = .ok (.iconst 1, 1) := by decide +kernel
theorem dX6_readDigit_48 : decode cX6_readDigit 48 = .ok (.iadd, 1) := by decide +kernel
theorem dX6_readDigit_49 : decode cX6_readDigit 49 = .ok (.putfield 160, 3) := by decide +kernel
theorem dX6_readDigit_52 : decode cX6_readDigit 52 = .ok (.aload_n 0, 1) := by decide +kernel
theorem dX6_readDigit_53 : decode cX6_readDigit 53 = .ok (.getfield 86, 3) := by decide +kernel
theorem dX6_readDigit_56 : decode cX6_readDigit 56 = .ok (.aload_n 0, 1) := by decide +kernel
theorem dX6_readDigit_57 : decode cX6_readDigit 57 = .ok (.getfield 166, 3) := by decide +kernel
