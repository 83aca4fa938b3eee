theorem dX8_best_13 : decode cX8_best 13 = .ok (.ireturn, 1) := by decide +kernel
theorem dX8_best_14 : decode cX8_best 14 = .ok (.aload_n 0, 1) := by decide +kernel
theorem dX8_best_15 : decode cX8_best 15 = .ok (.bipush 25, 2) := by decide +kernel
theorem dX8_best_17 : decode cX8_best 17 = .ok (.invokevirtual 179, 3) := by decide +kernel
theorem dX8_best_20 : decode cX8_best 20 = .ok (.istore_n 2, 1) := by decide +kernel
theorem dX8_best_21 : decode cX8_best 21 = .ok (.aload_n 0, 1) := by decide +kernel
theorem dX8_best_22 : decode cX8_best 22 = .ok (.iconst (-1), 1) := by decide +kernel
theorem dX8_best_23 : decode cX8_best 23 = .ok (.putfield 253, 3) := by decide +kernel
theorem dX8_best_26 : decode cX8_best 26 = .ok (.aload_n 0, 1) := by decide +kernel
theorem dX8_best_27 : decode cX8_best 27 = .ok (.ldc_w 277, 3) := by decide +kernel
theorem dX8_best_30 : decode cX8_best 30 = .ok (.putfield 256, 3) := by decide +kernel
theorem dX8_best_33 : decode cX8_best 33 = .ok (.iconst 0, 1) := by decide +kernel
theorem dX8_best_34 : decode cX8_best 34 = .ok (.istore_n 3, 1) := by decide +kernel
theorem dX8_best_35 : decode cX8_best 35 = .ok (.iload_n 3, 1) := by decide +kernel
theorem dX8_best_36 : decode cX8_best 36 = .ok (.aload_n 0, 1) := by decide +kernel
theorem dX8_best_37 : decode cX8_best 37 = .ok (.invokevirtual 265, 3) := by decide +kernel
theorem dX8_best_40 : decode cX8_best 40 = .ok (.if_icmp .ge 23, 3) := by decide +kernel
theorem dX8_best_43 : decode cX8_best 43 = .ok (.aload_n 0, 1) := by decide +kernel
theorem dX8_best_44 : decode cX8_best 44 = .ok (.bipush 25, 2) := by decide +kernel
theorem dX8_best_46 : decode cX8_best 46 = .ok (.iload_n 3, 1) := by decide +kernel
theorem dX8_best_47 : decode cX8_best 47 = .ok (.invokevirtual 268, 3) := by decide +kernel
theorem dX8_best_50 : decode cX8_best 50 = .ok (.ifCond .eq 7, 3) := by decide +kernel
theorem dX8_best_53 : decode cX8_best 53 = .ok (.aload_n 0, 1) := by decide +kernel
theorem dX8_best_54 : decode cX8_best 54 = .ok (.invokevirtual 278, 3) := by decide +kernel
theorem dX8_best_57 : decode cX8_best 57 = .ok (.iinc 3 1, 3) := by decide +kernel
theorem dX8_best_60 : decode cX8_best 60 = .ok (.goto (-25), 3) := by decide +kernel
theorem dX8_best_63 : decode cX8_best 63 = .ok (.aload_n 0, 1) := by decide +kernel
theorem dX8_best_64 : decode cX8_best 64 = .ok (.bipush 25, 2) := by decide +kernel
theorem dX8_best_66 : decode cX8_best 66 = .ok (.iload_n 2, 1) := by decide +kernel
theorem dX8_best_67 : decode cX8_best 67 = .ok (.invokevirtual 268, 3) := by decide +kernel
theorem dX8_best_70 : decode cX8_best 70 = .ok (.pop, 1) := by decide +kernel
theorem dX8_best_71 : decode cX8_best 71 = .ok (.iload_n 1, 1) := by decide +kernel
theorem dX8_best_72 : decode cX8_best 72 = .ok (.ifCond .ne 10, 3) := by decide +kernel
theorem dX8_best_75 : decode cX8_best 75 = .ok (.aload_n 0, 1) := by decide +kernel
theorem dX8_best_76 : decode cX8_best 76 = .ok (.getfield 253, 3) := by decide +kernel
theorem dX8_best_79 : decode cX8_best 79 = .ok (.goto 31, 3) := by decide +kernel
theorem dX8_best_82 : decode cX8_best 82 = .ok (.iload_n 1, 1) := by decide +kernel
theorem dX8_best_83 : decode cX8_best 83 = .ok (.iconst 1, 1) := by decide +kernel
theorem dX8_best_84 : decode cX8_best 84 = .ok (.if_icmp .ne 10, 3) := by decide +kernel
theorem dX8_best_87 : decode cX8_best 87 = .ok (.aload_n 0, 1) := by decide +kernel
theorem dX8_best_88 : decode cX8_best 88 = .ok (.getfield 256, 3) := by decide +kernel
theorem dX8_best_91 : decode cX8_best 91 = .ok (.goto 19, 3) := by decide +kernel
theorem dX8_best_94 : decode cX8_best 94 = .ok (.iload_n 1, 1) := by decide +kernel
theorem dX8_best_95 : decode cX8_best 95 = .ok (.iconst 2, 1) := by decide +kernel
theorem dX8_best_96 : decode cX8_best 96 = .ok (.if_icmp .ne 10, 3) := by decide +kernel
theorem dX8_best_99 : decode cX8_best 99 = .ok (.aload_n 0, 1) := by decide +kernel
theorem dX8_best_100 : decode cX8_best 100 = .ok (.getfield 259, 3) := by decide +kernel
theorem dX8_best_103 : decode cX8_best 103 = .ok (.goto 7, 3) := by decide +kernel
theorem dX8_best_106 : decode cX8_best 106 = .ok (.aload_n 0, 1) := by decide +kernel
theorem dX8_best_107 : decode cX8_best 107 = .ok (.getfield 262, 3) := by decide +kernel
theorem dX8_best_110 : decode cX8_best 110 = .ok (.ireturn, 1) := by decide +kernel
theorem dX8_packing_0 : decode cX8_packing 0 = .ok (.iload_n 1, 1) := by decide +kernel
theorem dX8_packing_1 : decode cX8_packing 1 = .ok (.i2l, 1) := by decide +kernel
theorem dX8_packing_2 : decode cX8_packing 2 = .ok (.lconst 0, 1) := by decide +kernel
theorem dX8_packing_3 : decode cX8_packing 3 = .ok (.ldc2_w 251, 3) := by decide +kernel
theorem dX8_packing_6 : decode cX8_packing 6 = .ok (.invokestatic 70, 3) := by decide +kernel
theorem dX8_packing_9 : decode cX8_packing 9 = .ok (.ifCond .ne 5, 3) := by decide +kernel
theorem dX8_packing_12 : decode cX8_packing 12 = .ok (.iconst (-1), 1) := by decide +kernel
theorem dX8_packing_13 : decode cX8_packing 13 = .ok (.ireturn, 1) := by decide +kernel
theorem dX8_packing_14 : decode cX8_packing 14 = .ok (.aload_n 0, 1) := by decide +kernel
theorem dX8_packing_15 : decode cX8_packing 15 = .ok (.iconst (-1), 1) := by decide +kernel
theorem dX8_packing_16 : decode cX8_packing 16 = .ok (.putfield 253, 3) := by decide +kernel
theorem dX8_packing_19 : decode cX8_packing 19 = .ok (.aload_n 0, 1) := by decide +kernel
theorem dX8_packing_20 : decode cX8_packing 20 = .ok (.ldc_w 277, 3) := by decide +kernel
theorem dX8_packing_23 : decode cX8_packing 23 = .ok (.putfield 256, 3) := by decide +kernel
theorem dX8_packing_26 : decode cX8_packing 26 = .ok (.aload_n 0, 1) := by decide +kernel
theorem dX8_packing_27 : decode cX8_packing 27 = .ok (.invokevirtual 278, 3) := by decide +kernel
theorem dX8_packing_30 : decode cX8_packing 30 = .ok (.iload_n 1, 1) := by decide +kernel
theorem dX8_packing_31 : decode cX8_packing 31 = .ok (.ifCond .ne 10, 3) := by decide +kernel
theorem dX8_packing_34 : decode cX8_packing 34 = .ok (.aload_n 0, 1) := by decide +kernel
theorem dX8_packing_35 : decode cX8_packing 35 = .ok (.getfield 253, 3) := by decide +kernel
theorem dX8_packing_38 : decode cX8_packing 38 = .ok (.goto 19, 3) := by decide +kernel
theorem dX8_packing_41 : decode cX8_packing 41 = .ok (.iload_n 1, 1) := by decide +kernel
theorem dX8_packing_42 : decode cX8_packing 42 = .ok (.iconst 1, 1) := by decide +kernel
theorem dX8_packing_43 : decode cX8_packing 43 = .ok (.if_icmp .ne 10, 3) := by decide +kernel
theorem dX8_packing_46 : decode cX8_packing 46 = .ok (.aload_n 0, 1) := by decide +kernel
theorem dX8_packing_47 : decode cX8_packing 47 = .ok (.getfield 256, 3) := by decide +kernel
theorem dX8_packing_50 : decode cX8_packing 50 = .ok (.goto 7, 3) := by decide +kernel
theorem dX8_packing_53 : decode cX8_packing 53 = .ok (.aload_n 0, 1) := by decide +kernel
theorem dX8_packing_54 : decode cX8_packing 54 = .ok (.getfield 262, 3) := by decide +kernel
theorem dX8_packing_57 : decode cX8_packing 57 = .ok (.ireturn, 1) := by decide +kernel
theorem dX8_soonest_0 : decode cX8_soonest 0 = .ok (.iload_n 1, 1) := by decide +kernel
theorem dX8_soonest_1 : decode cX8_soonest 1 = .ok (.i2l, 1) := by decide +kernel
theorem dX8_soonest_2 : decode cX8_soonest 2 = .ok (.lconst 0, 1) := by decide +kernel
theorem dX8_soonest_3 : decode cX8_soonest 3 = .ok (.lconst 1, 1) := by decide +kernel
theorem dX8_soonest_4 : decode cX8_soonest 4 = .ok (.invokestatic 70, 3) := by decide +kernel
theorem dX8_soonest_7 : decode cX8_soonest 7 = .ok (.ifCond .ne 5, 3) := by decide +kernel
theorem dX8_soonest_10 : decode cX8_soonest 10 = .ok (.iconst (-1), 1) := by decide +kernel
theorem dX8_soonest_11 : decode cX8_soonest 11 = .ok (.ireturn, 1) := by decide +kernel
theorem dX8_soonest_12 : decode cX8_soonest 12 = .ok (.aload_n 0, 1) := by decide +kernel
theorem dX8_soonest_13 : decode cX8_soonest 13 = .ok (.bipush 25, 2) := by decide +kernel
theorem dX8_soonest_15 : decode cX8_soonest 15 = .ok (.invokevirtual 179, 3) := by decide +kernel
theorem dX8_soonest_18 : decode cX8_soonest 18 = .ok (.istore_n 2, 1) := by decide +kernel
theorem dX8_soonest_19 : decode cX8_soonest 19 = .ok (.ldc_w 277, 3) := by decide +kernel
theorem dX8_soonest_22 : decode cX8_soonest 22 = .ok (.istore_n 3, 1) := by decide +kernel
theorem dX8_soonest_23 : decode cX8_soonest 23 = .ok (.iconst 0, 1) := by decide +kernel
theorem dX8_soonest_24 : decode cX8_soonest 24 = .ok (.istore 4, 2) := by decide +kernel
theorem dX8_soonest_26 : decode cX8_soonest 26 = .ok (.iconst 0, 1) := by decide +kernel
theorem dX8_soonest_27 : decode cX8_soonest 27 = .ok (.istore 5, 2) := by decide +kernel
theorem dX8_soonest_29 : decode cX8_soonest 29 = .ok (.iload 5, 2) := by decide +kernel
theorem dX8_soonest_31 : decode cX8_soonest 31 = .ok (.aload_n 0, 1) := by decide +kernel
theorem dX8_soonest_32 : decode cX8_soonest 32 = .ok (.invokevirtual 265, 3) := by decide +kernel
theorem dX8_soonest_35 : decode cX8_soonest 35 = .ok (.if_icmp .ge 54, 3) := by decide +kernel
theorem dX8_soonest_38 : decode cX8_soonest 38 = .ok (.aload_n 0, 1) := by decide +kernel
theorem dX8_soonest_39 : decode cX8_soonest 39 = .ok (.bipush 25, 2) := by decide +kernel
theorem dX8_soonest_41 : decode cX8_soonest 41 = .ok (.iload 5, 2) := by decide +kernel
theorem dX8_soonest_43 : decode cX8_soonest 43 = .ok (.invokevirtual 268, 3) := by decide +kernel
theorem dX8_soonest_46 : decode cX8_soonest 46 = .ok (.ifCond .eq 37, 3) := by decide +kernel
theorem dX8_soonest_49 : decode cX8_soonest 49 = .ok (.aload_n 0, 1) := by decide +kernel
theorem dX8_soonest_50 : decode cX8_soonest 50 = .ok (.invokevirtual 245, 3) := by decide +kernel
theorem dX8_soonest_53 : decode cX8_soonest 53 = .ok (.istore 6, 2) := by decide +kernel
theorem dX8_soonest_55 : decode cX8_soonest 55 = .ok (.iload 6, 2) := by decide +kernel
theorem dX8_soonest_57 : decode cX8_soonest 57 = .ok (.iload_n 3, 1) := by decide +kernel
theorem dX8_soonest_58 : decode cX8_soonest 58 = .ok (.if_icmp .ge 8, 3) := by decide +kernel
theorem dX8_soonest_61 : decode cX8_soonest 61 = .ok (.iload 5, 2) := by decide +kernel
theorem dX8_soonest_63 : decode cX8_soonest 63 = .ok (.goto 5, 3) := by decide +kernel
theorem dX8_soonest_66 : decode cX8_soonest 66 = .ok (.iload 4, 2) := by decide +kernel
theorem dX8_soonest_68 : decode cX8_soonest 68 = .ok (.istore 4, 2) := by decide +kernel
theorem dX8_soonest_70 : decode cX8_soonest 70 = .ok (.iload 6, 2) := by decide +kernel
theorem dX8_soonest_72 : decode cX8_soonest 72 = .ok (.iload_n 3, 1) := by decide +kernel
theorem dX8_soonest_73 : decode cX8_soonest 73 = .ok (.if_icmp .ge 8, 3) := by decide +kernel
theorem dX8_soonest_76 : decode cX8_soonest 76 = .ok (.iload 6, 2) := by decide +kernel
theorem dX8_soonest_78 : decode cX8_soonest 78 = .ok (.goto 4, 3) := by decide +kernel
theorem dX8_soonest_81 : decode cX8_soonest 81 = .ok (.iload_n 3, 1) := by decide +kernel
theorem dX8_soonest_82 : decode cX8_soonest 82 = .ok (.istore_n 3, 1) := by decide +kernel
theorem dX8_soonest_83 : decode cX8_soonest 83 = .ok (.iinc 5 1, 3) := by decide +kernel
theorem dX8_soonest_86 : decode cX8_soonest 86 = .ok (.goto (-57), 3) := by decide +kernel
theorem dX8_soonest_89 : decode cX8_soonest 89 = .ok (.aload_n 0, 1) := by decide +kernel
theorem dX8_soonest_90 : decode cX8_soonest 90 = .ok (.bipush 25, 2) := by decide +kernel
theorem dX8_soonest_92 : decode cX8_soonest 92 = .ok (.iload_n 2, 1) := by decide +kernel
theorem dX8_soonest_93 : decode cX8_soonest 93 = .ok (.invokevirtual 268, 3) := by decide +kernel
theorem dX8_soonest_96 : decode cX8_soonest 96 = .ok (.pop, 1) := by decide +kernel
theorem dX8_soonest_97 : decode cX8_soonest 97 = .ok (.iload_n 1, 1) := by decide +kernel
theorem dX8_soonest_98 : decode cX8_soonest 98 = .ok (.ifCond .ne 7, 3) := by decide +kernel
theorem dX8_soonest_101 : decode cX8_soonest 101 = .ok (.iload_n 3, 1) := by decide +kernel
theorem dX8_soonest_102 : decode cX8_soonest 102 = .ok (.goto 5, 3) := by decide +kernel
theorem dX8_soonest_105 : decode cX8_soonest 105 = .ok (.iload 4, 2) := by decide +kernel
theorem dX8_soonest_107 : decode cX8_soonest 107 = .ok (.ireturn, 1) := by decide +kernel
theorem dX8_twice_0 : decode cX8_twice 0 = .ok (.aload_n 0, 1) := by decide +kernel
theorem dX8_twice_1 : decode cX8_twice 1 = .ok (.invokevirtual 236, 3) := by decide +kernel
theorem dX8_twice_4 : decode cX8_twice 4 = .ok (.aload_n 0, 1) := by decide +kernel
theorem dX8_twice_5 : decode cX8_twice 5 = .ok (.iload_n 1, 1) := by decide +kernel
theorem dX8_twice_6 : decode cX8_twice 6 = .ok (.aload_n 0, 1) := by decide +kernel
theorem dX8_twice_7 : decode cX8_twice 7 = .ok (.getfield 7, 3) := by decide +kernel
theorem dX8_twice_10 : decode cX8_twice 10 = .ok (.bipush 31, 2) := by decide +kernel
theorem dX8_twice_12 : decode cX8_twice 12 = .ok (.iaload, 1) := by decide +kernel
theorem dX8_twice_13 : decode cX8_twice 13 = .ok (.invokevirtual 242, 3) := by decide +kernel
theorem dX8_twice_16 : decode cX8_twice 16 = .ok (.istore_n 2, 1) := by decide +kernel
theorem dX8_twice_17 : decode cX8_twice 17 = .ok (.aload_n 0, 1) := by decide +kernel
theorem dX8_twice_18 : decode cX8_twice 18 = .ok (.aload_n 0, 1) := by decide +kernel
theorem dX8_twice_19 : decode cX8_twice 19 = .ok (.invokevirtual 239, 3) := by decide +kernel
theorem dX8_twice_22 : decode cX8_twice 22 = .ok (.iload_n 1, 1) := by decide +kernel
theorem dX8_twice_23 : decode cX8_twice 23 = .ok (.iconst (-1), 1) := by decide +kernel
theorem dX8_twice_24 : decode cX8_twice 24 = .ok (.ixor, 1) := by decide +kernel
theorem dX8_twice_25 : decode cX8_twice 25 = .ok (.iand, 1) := by decide +kernel
theorem dX8_twice_26 : decode cX8_twice 26 = .ok (.iload_n 2, 1) := by decide +kernel
theorem dX8_twice_27 : decode cX8_twice 27 = .ok (.invokevirtual 242, 3) := by decide +kernel
theorem dX8_twice_30 : decode cX8_twice 30 = .ok (.ireturn, 1) := by decide +kernel
theorem dX8_two_0 : decode cX8_two 0 = .ok (.iload_n 1, 1) := by decide +kernel
theorem dX8_two_1 : decode cX8_two 1 = .ok (.i2l, 1) := by decide +kernel
theorem dX8_two_2 : decode cX8_two 2 = .ok (.lconst 0, 1) := by decide +kernel
theorem dX8_two_3 : decode cX8_two 3 = .ok (.aload_n 0, 1) := by decide +kernel
theorem dX8_two_4 : decode cX8_two 4 = .ok (.invokevirtual 239, 3) := by decide +kernel
theorem dX8_two_7 : decode cX8_two 7 = .ok (.i2l, 1) := by decide +kernel
theorem dX8_two_8 : decode cX8_two 8 = .ok (.invokestatic 70, 3) := by decide +kernel
theorem dX8_two_11 : decode cX8_two 11 = .ok (.ifCond .eq 13, 3) := by decide +kernel
theorem dX8_two_14 : decode cX8_two 14 = .ok (.iload_n 2, 1) := by decide +kernel
theorem dX8_two_15 : decode cX8_two 15 = .ok (.i2l, 1) := by decide +kernel
theorem dX8_two_16 : decode cX8_two 16 = .ok (.lconst 0, 1) := by decide +kernel
theorem dX8_two_17 : decode cX8_two 17 = .ok (.lconst 1, 1) := by decide +kernel
theorem dX8_two_18 : decode cX8_two 18 = .ok (.invokestatic 70, 3) := by decide +kernel
theorem dX8_two_21 : decode cX8_two 21 = .ok (.ifCond .ne 5, 3) := by decide +kernel
theorem dX8_two_24 : decode cX8_two 24 = .ok (.iconst (-1), 1) := by decide +kernel
theorem dX8_two_25 : decode cX8_two 25 = .ok (.ireturn, 1) := by decide +kernel
theorem dX8_two_26 : decode cX8_two 26 = .ok (.aload_n 0, 1) := by decide +kernel
theorem dX8_two_27 : decode cX8_two 27 = .ok (.iload_n 1, 1) := by decide +kernel
theorem dX8_two_28 : decode cX8_two 28 = .ok (.invokevirtual 281, 3) := by decide +kernel
theorem dX8_two_31 : decode cX8_two 31 = .ok (.istore_n 3, 1) := by decide +kernel
theorem dX8_two_32 : decode cX8_two 32 = .ok (.iload_n 2, 1) := by decide +kernel
theorem dX8_two_33 : decode cX8_two 33 = .ok (.ifCond .ne 14, 3) := by decide +kernel
theorem dX8_two_36 : decode cX8_two 36 = .ok (.aload_n 0, 1) := by decide +kernel
theorem dX8_two_37 : decode cX8_two 37 = .ok (.aload_n 0, 1) := by decide +kernel
theorem dX8_two_38 : decode cX8_two 38 = .ok (.invokevirtual 239, 3) := by decide +kernel
theorem dX8_two_41 : decode cX8_two 41 = .ok (.invokevirtual 248, 3) := by decide +kernel
theorem dX8_two_44 : decode cX8_two 44 = .ok (.goto 4, 3) := by decide +kernel
theorem dX8_two_47 : decode cX8_two 47 = .ok (.iload_n 3, 1) := by decide +kernel
theorem dX8_two_48 : decode cX8_two 48 = .ok (.ireturn, 1) := by decide +kernel
theorem dX8_split_0 : decode cX8_split 0 = .ok (.iload_n 1, 1) := by decide +kernel
theorem dX8_split_1 : decode cX8_split 1 = .ok (.i2l, 1) := by decide +kernel
theorem dX8_split_2 : decode cX8_split 2 = .ok (.lconst 0, 1) := by decide +kernel
theorem dX8_split_3 : decode cX8_split 3 = .ok (.ldc2_w 251, 3) := by decide +kernel
theorem dX8_split_6 : decode cX8_split 6 = .ok (.invokestatic 70, 3) := by decide +kernel
theorem dX8_split_9 : decode cX8_split 9 = .ok (.ifCond .ne 5, 3) := by decide +kernel
theorem dX8_split_12 : decode cX8_split 12 = .ok (.iconst (-1), 1) := by decide +kernel
theorem dX8_split_13 : decode cX8_split 13 = .ok (.ireturn, 1) := by decide +kernel
theorem dX8_split_14 : decode cX8_split 14 = .ok (.iconst (-1), 1) := by decide +kernel
theorem dX8_split_15 : decode cX8_split 15 = .ok (.istore_n 2, 1) := by decide +kernel
theorem dX8_split_16 : decode cX8_split 16 = .ok (.ldc_w 277, 3) := by decide +kernel
theorem dX8_split_19 : decode cX8_split 19 = .ok (.istore_n 3, 1) := by decide +kernel
theorem dX8_split_20 : decode cX8_split 20 = .ok (.iconst 0, 1) := by decide +kernel
theorem dX8_split_21 : decode cX8_split 21 = .ok (.istore 4, 2) := by decide +kernel
theorem dX8_split_23 : decode cX8_split 23 = .ok (.iconst 0, 1) := by decide +kernel
theorem dX8_split_24 : decode cX8_split 24 = .ok (.istore 5, 2) := by decide +kernel
theorem dX8_split_26 : decode cX8_split 26 = .ok (.iload 5, 2) := by decide +kernel
theorem dX8_split_28 : decode cX8_split 28 = .ok (.aload_n 0, 1) := by decide +kernel
theorem dX8_split_29 : decode cX8_split 29 = .ok (.invokevirtual 239, 3) := by decide +kernel
theorem dX8_split_32 : decode cX8_split 32 = .ok (.if_icmp .gt 90, 3) := by decide +kernel
theorem dX8_split_35 : decode cX8_split 35 = .ok (.aload_n 0, 1) := by decide +kernel
theorem dX8_split_36 : decode cX8_split 36 = .ok (.iload 5, 2) := by decide +kernel
theorem dX8_split_38 : decode cX8_split 38 = .ok (.invokevirtual 281, 3) := by decide +kernel
theorem dX8_split_41 : decode cX8_split 41 = .ok (.istore 6, 2) := by decide +kernel
theorem dX8_split_43 : decode cX8_split 43 = .ok (.aload_n 0, 1) := by decide +kernel
theorem dX8_split_44 : decode cX8_split 44 = .ok (.aload_n 0, 1) := by decide +kernel
theorem dX8_split_45 : decode cX8_split 45 = .ok (.invokevirtual 239, 3) := by decide +kernel
theorem dX8_split_48 : decode cX8_split 48 = .ok (.invokevirtual 248, 3) := by decide +kernel
theorem dX8_split_51 : decode cX8_split 51 = .ok (.istore 7, 2) := by decide +kernel
theorem dX8_split_53 : decode cX8_split 53 = .ok (.iload 7, 2) := by decide +kernel
theorem dX8_split_55 : decode cX8_split 55 = .ok (.iload_n 2, 1) := by decide +kernel
theorem dX8_split_56 : decode cX8_split 56 = .ok (.if_icmp .gt 15, 3) := by decide +kernel
theorem dX8_split_59 : decode cX8_split 59 = .ok (.iload 7, 2) := by decide +kernel
theorem dX8_split_61 : decode cX8_split 61 = .ok (.iload_n 2, 1) := by decide +kernel
theorem dX8_split_62 : decode cX8_split 62 = .ok (.if_icmp .ne 13, 3) := by decide +kernel
theorem dX8_split_65 : decode cX8_split 65 = .ok (.iload 6, 2) := by decide +kernel
theorem dX8_split_67 : decode cX8_split 67 = .ok (.iload_n 3, 1) := by decide +kernel
theorem dX8_split_68 : decode cX8_split 68 = .ok (.if_icmp .ge 7, 3) := by decide +kernel
theorem dX8_split_71 : decode cX8_split 71 = .ok (.iconst 1, 1) := by decide +kernel
theorem dX8_split_72 : decode cX8_split 72 = .ok (.goto 4, 3) := by decide +kernel
theorem dX8_split_75 : decode cX8_split 75 = .ok (.iconst 0, 1) := by decide +kernel
theorem dX8_split_76 : decode cX8_split 76 = .ok (.istore 8, 2) := by decide +kernel
theorem dX8_split_78 : decode cX8_split 78 = .ok (.iload 8, 2) := by decide +kernel
theorem dX8_split_80 : decode cX8_split 80 = .ok (.ifCond .eq 8, 3) := by decide +kernel
theorem dX8_split_83 : decode cX8_split 83 = .ok (.iload 5, 2) := by decide +kernel
theorem dX8_split_85 : decode cX8_split 85 = .ok (.goto 5, 3) := by decide +kernel
theorem dX8_split_88 : decode cX8_split 88 = .ok (.iload 4, 2) := by decide +kernel
theorem dX8_split_90 : decode cX8_split 90 = .ok (.istore 4, 2) := by decide +kernel
theorem dX8_split_92 : decode cX8_split 92 = .ok (.iload 8, 2) := by decide +kernel
theorem dX8_split_94 : decode cX8_split 94 = .ok (.ifCond .eq 8, 3) := by decide +kernel
theorem dX8_split_97 : decode cX8_split 97 = .ok (.iload 6, 2) := by decide +kernel
theorem dX8_split_99 : decode cX8_split 99 = .ok (.goto 4, 3) := by decide +kernel
theorem dX8_split_102 : decode cX8_split 102 = .ok (.iload_n 3, 1) := by decide +kernel
theorem dX8_split_103 : decode cX8_split 103 = .ok (.istore_n 3, 1) := by decide +kernel
theorem dX8_split_104 : decode cX8_split 104 = .ok (.iload 8, 2) := by decide +kernel
theorem dX8_split_106 : decode cX8_split 106 = .ok (.ifCond .eq 8, 3) := by decide +kernel
theorem dX8_split_109 : decode cX8_split 109 = .ok (.iload 7, 2) := by decide +kernel
theorem dX8_split_111 : decode cX8_split 111 = .ok (.goto 4, 3) := by decide +kernel
theorem dX8_split_114 : decode cX8_split 114 = .ok (.iload_n 2, 1) := by decide +kernel
theorem dX8_split_115 : decode cX8_split 115 = .ok (.istore_n 2, 1) := by decide +kernel
theorem dX8_split_116 : decode cX8_split 116 = .ok (.iinc 5 1, 3) := by decide +kernel
theorem dX8_split_119 : decode cX8_split 119 = .ok (.goto (-93), 3) := by decide +kernel
theorem dX8_split_122 : decode cX8_split 122 = .ok (.iload_n 1, 1) := by decide +kernel
theorem dX8_split_123 : decode cX8_split 123 = .ok (.ifCond .ne 8, 3) := by decide +kernel
theorem dX8_split_126 : decode cX8_split 126 = .ok (.iload 4, 2) := by decide +kernel
theorem dX8_split_128 : decode cX8_split 128 = .ok (.goto 13, 3) := by decide +kernel
theorem dX8_split_131 : decode cX8_split 131 = .ok (.iload_n 1, 1) := by decide +kernel
theorem dX8_split_132 : decode cX8_split 132 = .ok (.iconst 1, 1) := by decide +kernel
theorem dX8_split_133 : decode cX8_split 133 = .ok (.if_icmp .ne 7, 3) := by decide +kernel
theorem dX8_split_136 : decode cX8_split 136 = .ok (.iload_n 2, 1) := by decide +kernel
theorem dX8_split_137 : decode cX8_split 137 = .ok (.goto 4, 3) := by decide +kernel
theorem dX8_split_140 : decode cX8_split 140 = .ok (.iload_n 3, 1) := by decide +kernel
theorem dX8_split_141 : decode cX8_split 141 = .ok (.ireturn, 1) := by decide +kernel
theorem dX8_strength_0 : decode cX8_strength 0 = .ok (.aload_n 0, 1) := by decide +kernel
theorem dX8_strength_1 : decode cX8_strength 1 = .ok (.getfield 7, 3) := by decide +kernel
theorem dX8_strength_4 : decode cX8_strength 4 = .ok (.bipush 30, 2) := by decide +kernel
theorem dX8_strength_6 : decode cX8_strength 6 = .ok (.iaload, 1) := by decide +kernel
theorem dX8_strength_7 : decode cX8_strength 7 = .ok (.istore_n 1, 1) := by decide +kernel
theorem dX8_strength_8 : decode cX8_strength 8 = .ok (.bipush (-4), 2) := by decide +kernel
theorem dX8_strength_10 : decode cX8_strength 10 = .ok (.istore_n 2, 1) := by decide +kernel
theorem dX8_strength_11 : decode cX8_strength 11 = .ok (.bipush 60, 2) := by decide +kernel
theorem dX8_strength_13 : decode cX8_strength 13 = .ok (.istore_n 3, 1) := by decide +kernel
theorem dX8_strength_14 : decode cX8_strength 14 = .ok (.iload_n 3, 1) := by decide +kernel
theorem dX8_strength_15 : decode cX8_strength 15 = .ok (.ifCond .lt 38, 3) := by decide +kernel
theorem dX8_strength_18 : decode cX8_strength 18 = .ok (.aload_n 0, 1) := by decide +kernel
theorem dX8_strength_19 : decode cX8_strength 19 = .ok (.getfield 7, 3) := by decide +kernel
theorem dX8_strength_22 : decode cX8_strength 22 = .ok (.bipush 30, 2) := by decide +kernel
theorem dX8_strength_24 : decode cX8_strength 24 = .ok (.iload_n 3, 1) := by decide +kernel
theorem dX8_strength_25 : decode cX8_strength 25 = .ok (.bipush 10, 2) := by decide +kernel
theorem dX8_strength_27 : decode cX8_strength 27 = .ok (.isub, 1) := by decide +kernel
theorem dX8_strength_28 : decode cX8_strength 28 = .ok (.iastore, 1) := by decide +kernel
theorem dX8_strength_29 : decode cX8_strength 29 = .ok (.aload_n 0, 1) := by decide +kernel
theorem dX8_strength_30 : decode cX8_strength 30 = .ok (.invokevirtual 245, 3) := by decide +kernel
theorem dX8_strength_33 : decode cX8_strength 33 = .ok (.pop, 1) := by decide +kernel
theorem dX8_strength_34 : decode cX8_strength 34 = .ok (.aload_n 0, 1) := by decide +kernel
theorem dX8_strength_35 : decode cX8_strength 35 = .ok (.getfield 224, 3) := by decide +kernel
theorem dX8_strength_38 : decode cX8_strength 38 = .ok (.ifCond .ne 7, 3) := by decide +kernel
theorem dX8_strength_41 : decode cX8_strength 41 = .ok (.iload_n 3, 1) := by decide +kernel
theorem dX8_strength_42 : decode cX8_strength 42 = .ok (.goto 4, 3) := by decide +kernel
theorem dX8_strength_45 : decode cX8_strength 45 = .ok (.iload_n 2, 1) := by decide +kernel
theorem dX8_strength_46 : decode cX8_strength 46 = .ok (.istore_n 2, 1) := by decide +kernel
theorem dX8_strength_47 : decode cX8_strength 47 = .ok (.iinc 3 (-1), 3) := by decide +kernel
theorem dX8_strength_50 : decode cX8_strength 50 = .ok (.goto (-36), 3) := by decide +kernel
theorem dX8_strength_53 : decode cX8_strength 53 = .ok (.aload_n 0, 1) := by decide +kernel
theorem dX8_strength_54 : decode cX8_strength 54 = .ok (.getfield 7, 3) := by decide +kernel
theorem dX8_strength_57 : decode cX8_strength 57 = .ok (.bipush 30, 2) := by decide +kernel
theorem dX8_strength_59 : decode cX8_strength 59 = .ok (.iload_n 1, 1) := by decide +kernel
theorem dX8_strength_60 : decode cX8_strength 60 = .ok (.iastore, 1) := by decide +kernel
theorem dX8_strength_61 : decode cX8_strength 61 = .ok (.iload_n 2, 1) := by decide +kernel
theorem dX8_strength_62 : decode cX8_strength 62 = .ok (.ireturn, 1) := by decide +kernel
theorem dX8_latest_0 : decode cX8_latest 0 = .ok (.aload_n 0, 1) := by decide +kernel
theorem dX8_latest_1 : decode cX8_latest 1 = .ok (.getfield 7, 3) := by decide +kernel
theorem dX8_latest_4 : decode cX8_latest 4 = .ok (.bipush 31, 2) := by decide +kernel
theorem dX8_latest_6 : decode cX8_latest 6 = .ok (.iaload, 1) := by decide +kernel
theorem dX8_latest_7 : decode cX8_latest 7 = .ok (.istore_n 1, 1) := by decide +kernel
theorem dX8_latest_8 : decode cX8_latest 8 = .ok (.bipush (-4), 2) := by decide +kernel
theorem dX8_latest_10 : decode cX8_latest 10 = .ok (.istore_n 2, 1) := by decide +kernel
theorem dX8_latest_11 : decode cX8_latest 11 = .ok (.iconst 0, 1) := by decide +kernel
theorem dX8_latest_12 : decode cX8_latest 12 = .ok (.istore_n 3, 1) := by decide +kernel
theorem dX8_latest_13 : decode cX8_latest 13 = .ok (.iload_n 3, 1) := by decide +kernel
theorem dX8_latest_14 : decode cX8_latest 14 = .ok (.bipush 60, 2) := by decide +kernel
theorem dX8_latest_16 : decode cX8_latest 16 = .ok (.if_icmp .gt 35, 3) := by decide +kernel
theorem dX8_latest_19 : decode cX8_latest 19 = .ok (.aload_n 0, 1) := by decide +kernel
theorem dX8_latest_20 : decode cX8_latest 20 = .ok (.getfield 7, 3) := by decide +kernel
theorem dX8_latest_23 : decode cX8_latest 23 = .ok (.bipush 31, 2) := by decide +kernel
theorem dX8_latest_25 : decode cX8_latest 25 = .ok (.iload_n 3, 1) := by decide +kernel
theorem dX8_latest_26 : decode cX8_latest 26 = .ok (.iastore, 1) := by decide +kernel
theorem dX8_latest_27 : decode cX8_latest 27 = .ok (.aload_n 0, 1) := by decide +kernel
theorem dX8_latest_28 : decode cX8_latest 28 = .ok (.invokevirtual 245, 3) := by decide +kernel
theorem dX8_latest_31 : decode cX8_latest 31 = .ok (.pop, 1) := by decide +kernel
theorem dX8_latest_32 : decode cX8_latest 32 = .ok (.aload_n 0, 1) := by decide +kernel
theorem dX8_latest_33 : decode cX8_latest 33 = .ok (.getfield 224, 3) := by decide +kernel
theorem dX8_latest_36 : decode cX8_latest 36 = .ok (.ifCond .ne 7, 3) := by decide +kernel
theorem dX8_latest_39 : decode cX8_latest 39 = .ok (.iload_n 3, 1) := by decide +kernel
theorem dX8_latest_40 : decode cX8_latest 40 = .ok (.goto 4, 3) := by decide +kernel
theorem dX8_latest_43 : decode cX8_latest 43 = .ok (.iload_n 2, 1) := by decide +kernel
theorem dX8_latest_44 : decode cX8_latest 44 = .ok (.istore_n 2, 1) := by decide +kernel
theorem dX8_latest_45 : decode cX8_latest 45 = .ok (.iinc 3 1, 3) := by decide +kernel
theorem dX8_latest_48 : decode cX8_latest 48 = .ok (.goto (-35), 3) := by decide +kernel
theorem dX8_latest_51 : decode cX8_latest 51 = .ok (.aload_n 0, 1) := by decide +kernel
theorem dX8_latest_52 : decode cX8_latest 52 = .ok (.getfield 7, 3) := by decide +kernel
theorem dX8_latest_55 : decode cX8_latest 55 = .ok (.bipush 31, 2) := by decide +kernel
theorem dX8_latest_57 : decode cX8_latest 57 = .ok (.iload_n 1, 1) := by decide +kernel
theorem dX8_latest_58 : decode cX8_latest 58 = .ok (.iastore, 1) := by decide +kernel
theorem dX8_latest_59 : decode cX8_latest 59 = .ok (.iload_n 2, 1) := by decide +kernel
theorem dX8_latest_60 : decode cX8_latest 60 = .ok (.ireturn, 1) := by decide +kernel
theorem dX8_leave_0 : decode cX8_leave 0 = .ok (.iload_n 1, 1) := by decide +kernel
theorem dX8_leave_1 : decode cX8_leave 1 = .ok (.i2l, 1) := by decide +kernel
theorem dX8_leave_2 : decode cX8_leave 2 = .ok (.lconst 0, 1) := by decide +kernel
theorem dX8_leave_3 : decode cX8_leave 3 = .ok (.lconst 1, 1) := by decide +kernel
theorem dX8_leave_4 : decode cX8_leave 4 = .ok (.invokestatic 70, 3) := by decide +kernel
theorem dX8_leave_7 : decode cX8_leave 7 = .ok (.ifCond .ne 5, 3) := by decide +kernel
theorem dX8_leave_10 : decode cX8_leave 10 = .ok (.iconst (-1), 1) := by decide +kernel
theorem dX8_leave_11 : decode cX8_leave 11 = .ok (.ireturn, 1) := by decide +kernel
theorem dX8_leave_12 : decode cX8_leave 12 = .ok (.iconst (-1), 1) := by decide +kernel
theorem dX8_leave_13 : decode cX8_leave 13 = .ok (.istore_n 2, 1) := by decide +kernel
theorem dX8_leave_14 : decode cX8_leave 14 = .ok (.bipush (-4), 2) := by decide +kernel
theorem dX8_leave_16 : decode cX8_leave 16 = .ok (.istore_n 3, 1) := by decide +kernel
theorem dX8_leave_17 : decode cX8_leave 17 = .ok (.iconst 0, 1) := by decide +kernel
theorem dX8_leave_18 : decode cX8_leave 18 = .ok (.istore 4, 2) := by decide +kernel
theorem dX8_leave_20 : decode cX8_leave 20 = .ok (.iload 4, 2) := by decide +kernel
theorem dX8_leave_22 : decode cX8_leave 22 = .ok (.aload_n 0, 1) := by decide +kernel
theorem dX8_leave_23 : decode cX8_leave 23 = .ok (.getfield 167, 3) := by decide +kernel
theorem dX8_leave_26 : decode cX8_leave 26 = .ok (.if_icmp .ge 105, 3) := by decide +kernel
theorem dX8_leave_29 : decode cX8_leave 29 = .ok (.aload_n 0, 1) := by decide +kernel
theorem dX8_leave_30 : decode cX8_leave 30 = .ok (.invokevirtual 239, 3) := by decide +kernel
theorem dX8_leave_33 : decode cX8_leave 33 = .ok (.iconst 1, 1) := by decide +kernel
theorem dX8_leave_34 : decode cX8_leave 34 = .ok (.iload 4, 2) := by decide +kernel
theorem dX8_leave_36 : decode cX8_leave 36 = .ok (.ishl, 1) := by decide +kernel
theorem dX8_leave_37 : decode cX8_leave 37 = .ok (.iconst (-1), 1) := by decide +kernel
theorem dX8_leave_38 : decode cX8_leave 38 = .ok (.ixor, 1) := by decide +kernel
theorem dX8_leave_39 : decode cX8_leave 39 = .ok (.iand, 1) := by decide +kernel
theorem dX8_leave_40 : decode cX8_leave 40 = .ok (.istore 5, 2) := by decide +kernel
theorem dX8_leave_42 : decode cX8_leave 42 = .ok (.aload_n 0, 1) := by decide +kernel
theorem dX8_leave_43 : decode cX8_leave 43 = .ok (.invokevirtual 245, 3) := by decide +kernel
theorem dX8_leave_46 : decode cX8_leave 46 = .ok (.pop, 1) := by decide +kernel
theorem dX8_leave_47 : decode cX8_leave 47 = .ok (.aload_n 0, 1) := by decide +kernel
theorem dX8_leave_48 : decode cX8_leave 48 = .ok (.iload 5, 2) := by decide +kernel
theorem dX8_leave_50 : decode cX8_leave 50 = .ok (.invokevirtual 248, 3) := by decide +kernel
theorem dX8_leave_53 : decode cX8_leave 53 = .ok (.istore 6, 2) := by decide +kernel
theorem dX8_leave_55 : decode cX8_leave 55 = .ok (.aload_n 0, 1) := by decide +kernel
theorem dX8_leave_56 : decode cX8_leave 56 = .ok (.invokevirtual 236, 3) := by decide +kernel
theorem dX8_leave_59 : decode cX8_leave 59 = .ok (.aload_n 0, 1) := by decide +kernel
theorem dX8_leave_60 : decode cX8_leave 60 = .ok (.iload 5, 2) := by decide +kernel
theorem dX8_leave_62 : decode cX8_leave 62 = .ok (.aload_n 0, 1) := by decide +kernel
theorem dX8_leave_63 : decode cX8_leave 63 = .ok (.getfield 7, 3) := by decide +kernel
theorem dX8_leave_66 : decode cX8_leave 66 = .ok (.bipush 31, 2) := by decide +kernel
theorem dX8_leave_68 : decode cX8_leave 68 = .ok (.iaload, 1) := by decide +kernel
theorem dX8_leave_69 : decode cX8_leave 69 = .ok (.invokevirtual 242, 3) := by decide +kernel
theorem dX8_leave_72 : decode cX8_leave 72 = .ok (.pop, 1) := by decide +kernel
theorem dX8_leave_73 : decode cX8_leave 73 = .ok (.aload_n 0, 1) := by decide +kernel
theorem dX8_leave_74 : decode cX8_leave 74 = .ok (.iload 5, 2) := by decide +kernel
theorem dX8_leave_76 : decode cX8_leave 76 = .ok (.invokevirtual 248, 3) := by decide +kernel
theorem dX8_leave_79 : decode cX8_leave 79 = .ok (.istore 7, 2) := by decide +kernel
theorem dX8_leave_81 : decode cX8_leave 81 = .ok (.iload 7, 2) := by decide +kernel
theorem dX8_leave_83 : decode cX8_leave 83 = .ok (.iload 6, 2) := by decide +kernel
theorem dX8_leave_85 : decode cX8_leave 85 = .ok (.if_icmp .le 13, 3) := by decide +kernel
theorem dX8_leave_88 : decode cX8_leave 88 = .ok (.iload 7, 2) := by decide +kernel
theorem dX8_leave_90 : decode cX8_leave 90 = .ok (.iload_n 2, 1) := by decide +kernel
theorem dX8_leave_91 : decode cX8_leave 91 = .ok (.if_icmp .le 7, 3) := by decide +kernel
theorem dX8_leave_94 : decode cX8_leave 94 = .ok (.iconst 1, 1) := by decide +kernel
theorem dX8_leave_95 : decode cX8_leave 95 = .ok (.goto 4, 3) := by decide +kernel
theorem dX8_leave_98 : decode cX8_leave 98 = .ok (.iconst 0, 1) := by decide +kernel
theorem dX8_leave_99 : decode cX8_leave 99 = .ok (.istore 8, 2) := by decide +kernel
theorem dX8_leave_101 : decode cX8_leave 101 = .ok (.iload 8, 2) := by decide +kernel
theorem dX8_leave_103 : decode cX8_leave 103 = .ok (.ifCond .eq 8, 3) := by decide +kernel
theorem dX8_leave_106 : decode cX8_leave 106 = .ok (.iload 4, 2) := by decide +kernel
theorem dX8_leave_108 : decode cX8_leave 108 = .ok (.goto 4, 3) := by decide +kernel
theorem dX8_leave_111 : decode cX8_leave 111 = .ok (.iload_n 3, 1) := by decide +kernel
theorem dX8_leave_112 : decode cX8_leave 112 = .ok (.istore_n 3, 1) := by decide +kernel
theorem dX8_leave_113 : decode cX8_leave 113 = .ok (.iload 8, 2) := by decide +kernel
theorem dX8_leave_115 : decode cX8_leave 115 = .ok (.ifCond .eq 8, 3) := by decide +kernel
theorem dX8_leave_118 : decode cX8_leave 118 = .ok (.iload 7, 2) := by decide +kernel
theorem dX8_leave_120 : decode cX8_leave 120 = .ok (.goto 4, 3) := by decide +kernel
theorem dX8_leave_123 : decode cX8_leave 123 = .ok (.iload_n 2, 1) := by decide +kernel
theorem dX8_leave_124 : decode cX8_leave 124 = .ok (.istore_n 2, 1) := by decide +kernel
theorem dX8_leave_125 : decode cX8_leave 125 = .ok (.iinc 4 1, 3) := by decide +kernel
theorem dX8_leave_128 : decode cX8_leave 128 = .ok (.goto (-108), 3) := by decide +kernel
theorem dX8_leave_131 : decode cX8_leave 131 = .ok (.iload_n 3, 1) := by decide +kernel
theorem dX8_leave_132 : decode cX8_leave 132 = .ok (.bipush (-4), 2) := by decide +kernel
theorem dX8_leave_134 : decode cX8_leave 134 = .ok (.if_icmp .eq 7, 3) := by decide +kernel
theorem dX8_leave_137 : decode cX8_leave 137 = .ok (.iload_n 1, 1) := by decide +kernel
theorem dX8_leave_138 : decode cX8_leave 138 = .ok (.ifCond .ne 7, 3) := by decide +kernel
theorem dX8_leave_141 : decode cX8_leave 141 = .ok (.iload_n 3, 1) := by decide +kernel
theorem dX8_leave_142 : decode cX8_leave 142 = .ok (.goto 4, 3) := by decide +kernel
theorem dX8_leave_145 : decode cX8_leave 145 = .ok (.iload_n 2, 1) := by decide +kernel
theorem dX8_leave_146 : decode cX8_leave 146 = .ok (.ireturn, 1) := by decide +kernel
theorem dX8_lowest_0 : decode cX8_lowest 0 = .ok (.lload_n 0, 1) := by decide +kernel
theorem dX8_lowest_1 : decode cX8_lowest 1 = .ok (.lstore 5, 2) := by decide +kernel
theorem dX8_lowest_3 : decode cX8_lowest 3 = .ok (.lload_n 2, 1) := by decide +kernel
theorem dX8_lowest_4 : decode cX8_lowest 4 = .ok (.lstore 7, 2) := by decide +kernel
theorem dX8_lowest_6 : decode cX8_lowest 6 = .ok (.lload 7, 2) := by decide +kernel
theorem dX8_lowest_8 : decode cX8_lowest 8 = .ok (.lconst 0, 1) := by decide +kernel
theorem dX8_lowest_9 : decode cX8_lowest 9 = .ok (.lcmp, 1) := by decide +kernel
theorem dX8_lowest_10 : decode cX8_lowest 10 = .ok (.ifCond .eq 21, 3) := by decide +kernel
theorem dX8_lowest_13 : decode cX8_lowest 13 = .ok (.lload 5, 2) := by decide +kernel
theorem dX8_lowest_15 : decode cX8_lowest 15 = .ok (.lload 7, 2) := by decide +kernel
theorem dX8_lowest_17 : decode cX8_lowest 17 = .ok (.lrem, 1) := by decide +kernel
theorem dX8_lowest_18 : decode cX8_lowest 18 = .ok (.lstore 9, 2) := by decide +kernel
theorem dX8_lowest_20 : decode cX8_lowest 20 = .ok (.lload 7, 2) := by decide +kernel
theorem dX8_lowest_22 : decode cX8_lowest 22 = .ok (.lstore 5, 2) := by decide +kernel
theorem dX8_lowest_24 : decode cX8_lowest 24 = .ok (.lload 9, 2) := by decide +kernel
theorem dX8_lowest_26 : decode cX8_lowest 26 = .ok (.lstore 7, 2) := by decide +kernel
theorem dX8_lowest_28 : decode cX8_lowest 28 = .ok (.goto (-22), 3) := by decide +kernel
theorem dX8_lowest_31 : decode cX8_lowest 31 = .ok (.iload 4, 2) := by decide +kernel
theorem dX8_lowest_33 : decode cX8_lowest 33 = .ok (.ifCond .ne 7, 3) := by decide +kernel
theorem dX8_lowest_36 : decode cX8_lowest 36 = .ok (.lload_n 0, 1) := by decide +kernel
theorem dX8_lowest_37 : decode cX8_lowest 37 = .ok (.goto 4, 3) := by decide +kernel
theorem dX8_lowest_40 : decode cX8_lowest 40 = .ok (.lload_n 2, 1) := by decide +kernel
theorem dX8_lowest_41 : decode cX8_lowest 41 = .ok (.lload 5, 2) := by decide +kernel
theorem dX8_lowest_43 : decode cX8_lowest 43 = .ok (.ldiv, 1) := by decide +kernel
theorem dX8_lowest_44 : decode cX8_lowest 44 = .ok (.lreturn, 1) := by decide +kernel
theorem dX8_mean_0 : decode cX8_mean 0 = .ok (.iload_n 1, 1) := by decide +kernel
theorem dX8_mean_1 : decode cX8_mean 1 = .ok (.i2l, 1) := by decide +kernel
theorem dX8_mean_2 : decode cX8_mean 2 = .ok (.lconst 0, 1) := by decide +kernel
theorem dX8_mean_3 : decode cX8_mean 3 = .ok (.ldc2_w 284, 3) := by decide +kernel
theorem dX8_mean_6 : decode cX8_mean 6 = .ok (.invokestatic 70, 3) := by decide +kernel
theorem dX8_mean_9 : decode cX8_mean 9 = .ok (.ifCond .eq 13, 3) := by decide +kernel
theorem dX8_mean_12 : decode cX8_mean 12 = .ok (.iload_n 2, 1) := by decide +kernel
theorem dX8_mean_13 : decode cX8_mean 13 = .ok (.i2l, 1) := by decide +kernel
theorem dX8_mean_14 : decode cX8_mean 14 = .ok (.lconst 0, 1) := by decide +kernel
theorem dX8_mean_15 : decode cX8_mean 15 = .ok (.lconst 1, 1) := by decide +kernel
theorem dX8_mean_16 : decode cX8_mean 16 = .ok (.invokestatic 70, 3) := by decide +kernel
theorem dX8_mean_19 : decode cX8_mean 19 = .ok (.ifCond .ne 7, 3) := by decide +kernel
theorem dX8_mean_22 : decode cX8_mean 22 = .ok (.ldc2_w 286, 3) := by decide +kernel
theorem dX8_mean_25 : decode cX8_mean 25 = .ok (.lreturn, 1) := by decide +kernel
theorem dX8_mean_26 : decode cX8_mean 26 = .ok (.aload_n 0, 1) := by decide +kernel
theorem dX8_mean_27 : decode cX8_mean 27 = .ok (.invokevirtual 245, 3) := by decide +kernel
theorem dX8_mean_30 : decode cX8_mean 30 = .ok (.pop, 1) := by decide +kernel
theorem dX8_mean_31 : decode cX8_mean 31 = .ok (.aload_n 0, 1) := by decide +kernel
theorem dX8_mean_32 : decode cX8_mean 32 = .ok (.aload_n 0, 1) := by decide +kernel
theorem dX8_mean_33 : decode cX8_mean 33 = .ok (.invokevirtual 239, 3) := by decide +kernel
theorem dX8_mean_36 : decode cX8_mean 36 = .ok (.invokevirtual 248, 3) := by decide +kernel
theorem dX8_mean_39 : decode cX8_mean 39 = .ok (.i2l, 1) := by decide +kernel
theorem dX8_mean_40 : decode cX8_mean 40 = .ok (.bipush 10, 2) := by decide +kernel
theorem dX8_mean_42 : decode cX8_mean 42 = .ok (.iload_n 1, 1) := by decide +kernel
theorem dX8_mean_43 : decode cX8_mean 43 = .ok (.isub, 1) := by decide +kernel
theorem dX8_mean_44 : decode cX8_mean 44 = .ok (.i2l, 1) := by decide +kernel
theorem dX8_mean_45 : decode cX8_mean 45 = .ok (.lmul, 1) := by decide +kernel
theorem dX8_mean_46 : decode cX8_mean 46 = .ok (.ldc2_w 284, 3) := by decide +kernel
theorem dX8_mean_49 : decode cX8_mean 49 = .ok (.iload_n 2, 1) := by decide +kernel
theorem dX8_mean_50 : decode cX8_mean 50 = .ok (.invokestatic 288, 3) := by decide +kernel
theorem dX8_mean_53 : decode cX8_mean 53 = .ok (.lreturn, 1) := by decide +kernel
theorem dX8_luck_0 : decode cX8_luck 0 = .ok (.iload_n 1, 1) := by decide +kernel
theorem dX8_luck_1 : decode cX8_luck 1 = .ok (.i2l, 1) := by decide +kernel
theorem dX8_luck_2 : decode cX8_luck 2 = .ok (.lconst 0, 1) := by decide +kernel
theorem dX8_luck_3 : decode cX8_luck 3 = .ok (.ldc2_w 284, 3) := by decide +kernel
theorem dX8_luck_6 : decode cX8_luck 6 = .ok (.invokestatic 70, 3) := by decide +kernel
theorem dX8_luck_9 : decode cX8_luck 9 = .ok (.ifCond .eq 25, 3) := by decide +kernel
theorem dX8_luck_12 : decode cX8_luck 12 = .ok (.iload_n 2, 1) := by decide +kernel
theorem dX8_luck_13 : decode cX8_luck 13 = .ok (.i2l, 1) := by decide +kernel
theorem dX8_luck_14 : decode cX8_luck 14 = .ok (.lconst 0, 1) := by decide +kernel
theorem dX8_luck_15 : decode cX8_luck 15 = .ok (.ldc2_w 292, 3) := by decide +kernel
theorem dX8_luck_18 : decode cX8_luck 18 = .ok (.invokestatic 70, 3) := by decide +kernel
theorem dX8_luck_21 : decode cX8_luck 21 = .ok (.ifCond .eq 13, 3) := by decide +kernel
theorem dX8_luck_24 : decode cX8_luck 24 = .ok (.iload_n 3, 1) := by decide +kernel
theorem dX8_luck_25 : decode cX8_luck 25 = .ok (.i2l, 1) := by decide +kernel
theorem dX8_luck_26 : decode cX8_luck 26 = .ok (.lconst 0, 1) := by decide +kernel
theorem dX8_luck_27 : decode cX8_luck 27 = .ok (.lconst 1, 1) := by decide +kernel
theorem dX8_luck_28 : decode cX8_luck 28 = .ok (.invokestatic 70, 3) := by decide +kernel
theorem dX8_luck_31 : decode cX8_luck 31 = .ok (.ifCond .ne 7, 3) := by decide +kernel
theorem dX8_luck_34 : decode cX8_luck 34 = .ok (.ldc2_w 286, 3) := by decide +kernel
theorem dX8_luck_37 : decode cX8_luck 37 = .ok (.lreturn, 1) := by decide +kernel
theorem dX8_luck_38 : decode cX8_luck 38 = .ok (.aload_n 0, 1) := by decide +kernel
theorem dX8_luck_39 : decode cX8_luck 39 = .ok (.invokevirtual 245, 3) := by decide +kernel
theorem dX8_luck_42 : decode cX8_luck 42 = .ok (.pop, 1) := by decide +kernel
theorem dX8_luck_43 : decode cX8_luck 43 = .ok (.lconst 0, 1) := by decide +kernel
theorem dX8_luck_44 : decode cX8_luck 44 = .ok (.lstore 4, 2) := by decide +kernel
theorem dX8_luck_46 : decode cX8_luck 46 = .ok (.lconst 1, 1) := by decide +kernel
theorem dX8_luck_47 : decode cX8_luck 47 = .ok (.lstore 6, 2) := by decide +kernel
theorem dX8_luck_49 : decode cX8_luck 49 = .ok (.iconst 0, 1) := by decide +kernel
theorem dX8_luck_50 : decode cX8_luck 50 = .ok (.istore 8, 2) := by decide +kernel
theorem dX8_luck_52 : decode cX8_luck 52 = .ok (.iload 8, 2) := by decide +kernel
theorem dX8_luck_54 : decode cX8_luck 54 = .ok (.aload_n 0, 1) := by decide +kernel
theorem dX8_luck_55 : decode cX8_luck 55 = .ok (.getfield 167, 3) := by decide +kernel
theorem dX8_luck_58 : decode cX8_luck 58 = .ok (.if_icmp .ge 17, 3) := by decide +kernel
theorem dX8_luck_61 : decode cX8_luck 61 = .ok (.lload 6, 2) := by decide +kernel
theorem dX8_luck_63 : decode cX8_luck 63 = .ok (.ldc2_w 284, 3) := by decide +kernel
theorem dX8_luck_66 : decode cX8_luck 66 = .ok (.lmul, 1) := by decide +kernel
theorem dX8_luck_67 : decode cX8_luck 67 = .ok (.lstore 6, 2) := by decide +kernel
theorem dX8_luck_69 : decode cX8_luck 69 = .ok (.iinc 8 1, 3) := by decide +kernel
theorem dX8_luck_72 : decode cX8_luck 72 = .ok (.goto (-20), 3) := by decide +kernel
theorem dX8_luck_75 : decode cX8_luck 75 = .ok (.iconst 0, 1) := by decide +kernel
theorem dX8_luck_76 : decode cX8_luck 76 = .ok (.istore 8, 2) := by decide +kernel
theorem dX8_luck_78 : decode cX8_luck 78 = .ok (.iload 8, 2) := by decide +kernel
theorem dX8_luck_80 : decode cX8_luck 80 = .ok (.aload_n 0, 1) := by decide +kernel
theorem dX8_luck_81 : decode cX8_luck 81 = .ok (.invokevirtual 239, 3) := by decide +kernel
theorem dX8_luck_84 : decode cX8_luck 84 = .ok (.if_icmp .gt 77, 3) := by decide +kernel
theorem dX8_luck_87 : decode cX8_luck 87 = .ok (.lconst 1, 1) := by decide +kernel
theorem dX8_luck_88 : decode cX8_luck 88 = .ok (.lstore 9, 2) := by decide +kernel
theorem dX8_luck_90 : decode cX8_luck 90 = .ok (.iconst 0, 1) := by decide +kernel
theorem dX8_luck_91 : decode cX8_luck 91 = .ok (.istore 11, 2) := by decide +kernel
theorem dX8_luck_93 : decode cX8_luck 93 = .ok (.iload 11, 2) := by decide +kernel
theorem dX8_luck_95 : decode cX8_luck 95 = .ok (.aload_n 0, 1) := by decide +kernel
theorem dX8_luck_96 : decode cX8_luck 96 = .ok (.getfield 167, 3) := by decide +kernel
theorem dX8_luck_99 : decode cX8_luck 99 = .ok (.if_icmp .ge 35, 3) := by decide +kernel
theorem dX8_luck_102 : decode cX8_luck 102 = .ok (.lload 9, 2) := by decide +kernel
theorem dX8_luck_104 : decode cX8_luck 104 = .ok (.iload 8, 2) := by decide +kernel
theorem dX8_luck_106 : decode cX8_luck 106 = .ok (.iload 11, 2) := by decide +kernel
theorem dX8_luck_108 : decode cX8_luck 108 = .ok (.ishr, 1) := by decide +kernel
theorem dX8_luck_109 : decode cX8_luck 109 = .ok (.iconst 1, 1) := by decide +kernel
theorem dX8_luck_110 : decode cX8_luck 110 = .ok (.iand, 1) := by decide +kernel
theorem dX8_luck_111 : decode cX8_luck 111 = .ok (.iconst 1, 1) := by decide +kernel
theorem dX8_luck_112 : decode cX8_luck 112 = .ok (.if_icmp .ne 11, 3) := by decide +kernel
theorem dX8_luck_115 : decode cX8_luck 115 = .ok (.bipush 10, 2) := by decide +kernel
theorem dX8_luck_117 : decode cX8_luck 117 = .ok (.iload_n 1, 1) := by decide +kernel
theorem dX8_luck_118 : decode cX8_luck 118 = .ok (.isub, 1) := by decide +kernel
theorem dX8_luck_119 : decode cX8_luck 119 = .ok (.i2l, 1) := by decide +kernel
theorem dX8_luck_120 : decode cX8_luck 120 = .ok (.goto 5, 3) := by decide +kernel
theorem dX8_luck_123 : decode cX8_luck 123 = .ok (.iload_n 1, 1) := by decide +kernel
theorem dX8_luck_124 : decode cX8_luck 124 = .ok (.i2l, 1) := by decide +kernel
theorem dX8_luck_125 : decode cX8_luck 125 = .ok (.lmul, 1) := by decide +kernel
theorem dX8_luck_126 : decode cX8_luck 126 = .ok (.lstore 9, 2) := by decide +kernel
theorem dX8_luck_128 : decode cX8_luck 128 = .ok (.iinc 11 1, 3) := by decide +kernel
theorem dX8_luck_131 : decode cX8_luck 131 = .ok (.goto (-38), 3) := by decide +kernel
theorem dX8_luck_134 : decode cX8_luck 134 = .ok (.lload 4, 2) := by decide +kernel
theorem dX8_luck_136 : decode cX8_luck 136 = .ok (.aload_n 0, 1) := by decide +kernel
theorem dX8_luck_137 : decode cX8_luck 137 = .ok (.iload 8, 2) := by decide +kernel
theorem dX8_luck_139 : decode cX8_luck 139 = .ok (.invokevirtual 248, 3) := by decide +kernel
theorem dX8_luck_142 : decode cX8_luck 142 = .ok (.iload_n 2, 1) := by decide +kernel
theorem dX8_luck_143 : decode cX8_luck 143 = .ok (.if_icmp .lt 8, 3) := by decide +kernel
theorem dX8_luck_146 : decode cX8_luck 146 = .ok (.lload 9, 2) := by decide +kernel
theorem dX8_luck_148 : decode cX8_luck 148 = .ok (.goto 4, 3) := by decide +kernel
theorem dX8_luck_151 : decode cX8_luck 151 = .ok (.lconst 0, 1) := by decide +kernel
theorem dX8_luck_152 : decode cX8_luck 152 = .ok (.ladd, 1) := by decide +kernel
theorem dX8_luck_153 : decode cX8_luck 153 = .ok (.lstore 4, 2) := by decide +kernel
theorem dX8_luck_155 : decode cX8_luck 155 = .ok (.iinc 8 1, 3) := by decide +kernel
theorem dX8_luck_158 : decode cX8_luck 158 = .ok (.goto (-80), 3) := by decide +kernel
theorem dX8_luck_161 : decode cX8_luck 161 = .ok (.lload 4, 2) := by decide +kernel
theorem dX8_luck_163 : decode cX8_luck 163 = .ok (.lload 6, 2) := by decide +kernel
theorem dX8_luck_165 : decode cX8_luck 165 = .ok (.iload_n 3, 1) := by decide +kernel
theorem dX8_luck_166 : decode cX8_luck 166 = .ok (.invokestatic 288, 3) := by decide +kernel
theorem dX8_luck_169 : decode cX8_luck 169 = .ok (.lreturn, 1) := by decide +kernel
theorem dX8_see_0 : decode cX8_see 0 = .ok (.aload_n 0, 1) := by decide +kernel
theorem dX8_see_1 : decode cX8_see 1 = .ok (.iload_n 1, 1) := by decide +kernel
theorem dX8_see_2 : decode cX8_see 2 = .ok (.invokevirtual 185, 3) := by decide +kernel
theorem dX8_see_5 : decode cX8_see 5 = .ok (.ifCond .eq 15, 3) := by decide +kernel
theorem dX8_see_8 : decode cX8_see 8 = .ok (.iload_n 2, 1) := by decide +kernel
theorem dX8_see_9 : decode cX8_see 9 = .ok (.i2l, 1) := by decide +kernel
theorem dX8_see_10 : decode cX8_see 10 = .ok (.lconst 0, 1) := by decide +kernel
theorem dX8_see_11 : decode cX8_see 11 = .ok (.ldc2_w 294, 3) := by decide +kernel
theorem dX8_see_14 : decode cX8_see 14 = .ok (.invokestatic 70, 3) := by decide +kernel
theorem dX8_see_17 : decode cX8_see 17 = .ok (.ifCond .ne 5, 3) := by decide +kernel
theorem dX8_see_20 : decode cX8_see 20 = .ok (.iconst (-1), 1) := by decide +kernel
theorem dX8_see_21 : decode cX8_see 21 = .ok (.ireturn, 1) := by decide +kernel
theorem dX8_see_22 : decode cX8_see 22 = .ok (.aload_n 0, 1) := by decide +kernel
theorem dX8_see_23 : decode cX8_see 23 = .ok (.getfield 170, 3) := by decide +kernel
theorem dX8_see_26 : decode cX8_see 26 = .ok (.bipush 6, 2) := by decide +kernel
theorem dX8_see_28 : decode cX8_see 28 = .ok (.if_icmp .ne 6, 3) := by decide +kernel
theorem dX8_see_31 : decode cX8_see 31 = .ok (.bipush (-3), 2) := by decide +kernel
theorem dX8_see_33 : decode cX8_see 33 = .ok (.ireturn, 1) := by decide +kernel
theorem dX8_see_34 : decode cX8_see 34 = .ok (.aload_n 0, 1) := by decide +kernel
theorem dX8_see_35 : decode cX8_see 35 = .ok (.getfield 52, 3) := by decide +kernel
theorem dX8_see_38 : decode cX8_see 38 = .ok (.iconst 2, 1) := by decide +kernel
theorem dX8_see_39 : decode cX8_see 39 = .ok (.aload_n 0, 1) := by decide +kernel
theorem dX8_see_40 : decode cX8_see 40 = .ok (.getfield 170, 3) := by decide +kernel
theorem dX8_see_43 : decode cX8_see 43 = .ok (.imul, 1) := by decide +kernel
theorem dX8_see_44 : decode cX8_see 44 = .ok (.iload_n 1, 1) := by decide +kernel
theorem dX8_see_45 : decode cX8_see 45 = .ok (.iastore, 1) := by decide +kernel
theorem dX8_see_46 : decode cX8_see 46 = .ok (.aload_n 0, 1) := by decide +kernel
theorem dX8_see_47 : decode cX8_see 47 = .ok (.getfield 52, 3) := by decide +kernel
theorem dX8_see_50 : decode cX8_see 50 = .ok (.iconst 2, 1) := by decide +kernel
theorem dX8_see_51 : decode cX8_see 51 = .ok (.aload_n 0, 1) := by decide +kernel
theorem dX8_see_52 : decode cX8_see 52 = .ok (.getfield 170, 3) := by decide +kernel
theorem dX8_see_55 : decode cX8_see 55 = .ok (.imul, 1) := by decide +kernel
theorem dX8_see_56 : decode cX8_see 56 = .ok (.iconst 1, 1) := by decide +kernel
theorem dX8_see_57 : decode cX8_see 57 = .ok (.iadd, 1) := by decide +kernel
theorem dX8_see_58 : decode cX8_see 58 = .ok (.iload_n 2, 1) := by decide +kernel
theorem dX8_see_59 : decode cX8_see 59 = .ok (.iastore, 1) := by decide +kernel
theorem dX8_see_60 : decode cX8_see 60 = .ok (.aload_n 0, 1) := by decide +kernel
theorem dX8_see_61 : decode cX8_see 61 = .ok (.dup, 1) := by decide +kernel
theorem dX8_see_62 : decode cX8_see 62 = .ok (.getfield 170, 3) := by decide +kernel
theorem dX8_see_65 : decode cX8_see 65 = .ok (.iconst 1, 1) := by decide +kernel
theorem dX8_see_66 : decode cX8_see 66 = .ok (.iadd, 1) := by decide +kernel
theorem dX8_see_67 : decode cX8_see 67 = .ok (.putfield 170, 3) := by decide +kernel
theorem dX8_see_70 : decode cX8_see 70 = .ok (.aload_n 0, 1) := by decide +kernel
theorem dX8_see_71 : decode cX8_see 71 = .ok (.getfield 170, 3) := by decide +kernel
theorem dX8_see_74 : decode cX8_see 74 = .ok (.ireturn, 1) := by decide +kernel
theorem dX8_forget_0 : decode cX8_forget 0 = .ok (.iload_n 1, 1) := by decide +kernel
theorem dX8_forget_1 : decode cX8_forget 1 = .ok (.i2l, 1) := by decide +kernel
theorem dX8_forget_2 : decode cX8_forget 2 = .ok (.lconst 0, 1) := by decide +kernel
theorem dX8_forget_3 : decode cX8_forget 3 = .ok (.aload_n 0, 1) := by decide +kernel
theorem dX8_forget_4 : decode cX8_forget 4 = .ok (.getfield 170, 3) := by decide +kernel
theorem dX8_forget_7 : decode cX8_forget 7 = .ok (.i2l, 1) := by decide +kernel
theorem dX8_forget_8 : decode cX8_forget 8 = .ok (.invokestatic 70, 3) := by decide +kernel
theorem dX8_forget_11 : decode cX8_forget 11 = .ok (.ifCond .ne 5, 3) := by decide +kernel
theorem dX8_forget_14 : decode cX8_forget 14 = .ok (.iconst (-1), 1) := by decide +kernel
theorem dX8_forget_15 : decode cX8_forget 15 = .ok (.ireturn, 1) := by decide +kernel
theorem dX8_forget_16 : decode cX8_forget 16 = .ok (.aload_n 0, 1) := by decide +kernel
theorem dX8_forget_17 : decode cX8_forget 17 = .ok (.getfield 170, 3) := by decide +kernel
theorem dX8_forget_20 : decode cX8_forget 20 = .ok (.istore_n 2, 1) := by decide +kernel
theorem dX8_forget_21 : decode cX8_forget 21 = .ok (.aload_n 0, 1) := by decide +kernel
theorem dX8_forget_22 : decode cX8_forget 22 = .ok (.iload_n 1, 1) := by decide +kernel
theorem dX8_forget_23 : decode cX8_forget 23 = .ok (.putfield 170, 3) := by decide +kernel
theorem dX8_forget_26 : decode cX8_forget 26 = .ok (.iload_n 2, 1) := by decide +kernel
theorem dX8_forget_27 : decode cX8_forget 27 = .ok (.ireturn, 1) := by decide +kernel
theorem dX8_isAsSeen_0 : decode cX8_isAsSeen 0 = .ok (.iconst 1, 1) := by decide +kernel
theorem dX8_isAsSeen_1 : decode cX8_isAsSeen 1 = .ok (.istore_n 1, 1) := by decide +kernel
theorem dX8_isAsSeen_2 : decode cX8_isAsSeen 2 = .ok (.aload_n 0, 1) := by decide +kernel
theorem dX8_isAsSeen_3 : decode cX8_isAsSeen 3 = .ok (.invokevirtual 245, 3) := by decide +kernel
theorem dX8_isAsSeen_6 : decode cX8_isAsSeen 6 = .ok (.pop, 1) := by decide +kernel
theorem dX8_isAsSeen_7 : decode cX8_isAsSeen 7 = .ok (.iconst 0, 1) := by decide +kernel
theorem dX8_isAsSeen_8 : decode cX8_isAsSeen 8 = .ok (.istore_n 2, 1) := by decide +kernel
theorem dX8_isAsSeen_9 : decode cX8_isAsSeen 9 = .ok (.iload_n 2, 1) := by decide +kernel
theorem dX8_isAsSeen_10 : decode cX8_isAsSeen 10 = .ok (.aload_n 0, 1) := by decide +kernel
theorem dX8_isAsSeen_11 : decode cX8_isAsSeen 11 = .ok (.getfield 170, 3) := by decide +kernel
theorem dX8_isAsSeen_14 : decode cX8_isAsSeen 14 = .ok (.if_icmp .ge 45, 3) := by decide +kernel
theorem dX8_isAsSeen_17 : decode cX8_isAsSeen 17 = .ok (.iload_n 1, 1) := by decide +kernel
theorem dX8_isAsSeen_18 : decode cX8_isAsSeen 18 = .ok (.ifCond .eq 33, 3) := by decide +kernel
theorem dX8_isAsSeen_21 : decode cX8_isAsSeen 21 = .ok (.aload_n 0, 1) := by decide +kernel
theorem dX8_isAsSeen_22 : decode cX8_isAsSeen 22 = .ok (.getfield 49, 3) := by decide +kernel
theorem dX8_isAsSeen_25 : decode cX8_isAsSeen 25 = .ok (.aload_n 0, 1) := by decide +kernel
theorem dX8_isAsSeen_26 : decode cX8_isAsSeen 26 = .ok (.getfield 52, 3) := by decide +kernel
theorem dX8_isAsSeen_29 : decode cX8_isAsSeen 29 = .ok (.iconst 2, 1) := by decide +kernel
theorem dX8_isAsSeen_30 : decode cX8_isAsSeen 30 = .ok (.iload_n 2, 1) := by decide +kernel
theorem dX8_isAsSeen_31 : decode cX8_isAsSeen 31 = .ok (.imul, 1) := by decide +kernel
theorem dX8_isAsSeen_32 : decode cX8_isAsSeen 32 = .ok (.iaload, 1) := by decide +kernel
theorem dX8_isAsSeen_33 : decode cX8_isAsSeen 33 = .ok (.iaload, 1) := by decide +kernel
theorem dX8_isAsSeen_34 : decode cX8_isAsSeen 34 = .ok (.aload_n 0, 1) := by decide +kernel
theorem dX8_isAsSeen_35 : decode cX8_isAsSeen 35 = .ok (.getfield 52, 3) := by decide +kernel
theorem dX8_isAsSeen_38 : decode cX8_isAsSeen 38 = .ok (.iconst 2, 1) := by decide +kernel
theorem dX8_isAsSeen_39 : decode cX8_isAsSeen 39 = .ok (.iload_n 2, 1) := by decide +kernel
theorem dX8_isAsSeen_40 : decode cX8_isAsSeen 40 = .ok (.imul, 1) := by decide +kernel
theorem dX8_isAsSeen_41 : decode cX8_isAsSeen 41 = .ok (.iconst 1, 1) := by decide +kernel
theorem dX8_isAsSeen_42 : decode cX8_isAsSeen 42 = .ok (.iadd, 1) := by decide +kernel
theorem dX8_isAsSeen_43 : decode cX8_isAsSeen 43 = .ok (.iaload, 1) := by decide +kernel
theorem dX8_isAsSeen_44 : decode cX8_isAsSeen 44 = .ok (.if_icmp .ne 7, 3) := by decide +kernel
theorem dX8_isAsSeen_47 : decode cX8_isAsSeen 47 = .ok (.iconst 1, 1) := by decide +kernel
theorem dX8_isAsSeen_48 : decode cX8_isAsSeen 48 = .ok (.goto 4, 3) := by decide +kernel
theorem dX8_isAsSeen_51 : decode cX8_isAsSeen 51 = .ok (.iconst 0, 1) := by decide +kernel
theorem dX8_isAsSeen_52 : decode cX8_isAsSeen 52 = .ok (.istore_n 1, 1) := by decide +kernel
theorem dX8_isAsSeen_53 : decode cX8_isAsSeen 53 = .ok (.iinc 2 1, 3) := by decide +kernel
theorem dX8_isAsSeen_56 : decode cX8_isAsSeen 56 = .ok (.goto (-47), 3) := by decide +kernel
theorem dX8_isAsSeen_59 : decode cX8_isAsSeen 59 = .ok (.iload_n 1, 1) := by decide +kernel
theorem dX8_isAsSeen_60 : decode cX8_isAsSeen 60 = .ok (.ireturn, 1) := by decide +kernel
theorem dX8_fits_0 : decode cX8_fits 0 = .ok (.iload_n 1, 1) := by decide +kernel
theorem dX8_fits_1 : decode cX8_fits 1 = .ok (.i2l, 1) := by decide +kernel
theorem dX8_fits_2 : decode cX8_fits 2 = .ok (.lconst 0, 1) := by decide +kernel
theorem dX8_fits_3 : decode cX8_fits 3 = .ok (.ldc2_w 251, 3) := by decide +kernel
theorem dX8_fits_6 : decode cX8_fits 6 = .ok (.invokestatic 70, 3) := by decide +kernel
theorem dX8_fits_9 : decode cX8_fits 9 = .ok (.ifCond .ne 5, 3) := by decide +kernel
theorem dX8_fits_12 : decode cX8_fits 12 = .ok (.iconst (-1), 1) := by decide +kernel
theorem dX8_fits_13 : decode cX8_fits 13 = .ok (.ireturn, 1) := by decide +kernel
theorem dX8_fits_14 : decode cX8_fits 14 = .ok (.aload_n 0, 1) := by decide +kernel
theorem dX8_fits_15 : decode cX8_fits 15 = .ok (.bipush 25, 2) := by decide +kernel
theorem dX8_fits_17 : decode cX8_fits 17 = .ok (.invokevirtual 179, 3) := by decide +kernel
theorem dX8_fits_20 : decode cX8_fits 20 = .ok (.istore_n 2, 1) := by decide +kernel
theorem dX8_fits_21 : decode cX8_fits 21 = .ok (.iconst 0, 1) := by decide +kernel
theorem dX8_fits_22 : decode cX8_fits 22 = .ok (.istore_n 3, 1) := by decide +kernel
theorem dX8_fits_23 : decode cX8_fits 23 = .ok (.bipush (-4), 2) := by decide +kernel
theorem dX8_fits_25 : decode cX8_fits 25 = .ok (.istore 4, 2) := by decide +kernel
theorem dX8_fits_27 : decode cX8_fits 27 = .ok (.iconst 0, 1) := by decide +kernel
theorem dX8_fits_28 : decode cX8_fits 28 = .ok (.istore 5, 2) := by decide +kernel
theorem dX8_fits_30 : decode cX8_fits 30 = .ok (.iconst 0, 1) := by decide +kernel
theorem dX8_fits_31 : decode cX8_fits 31 = .ok (.istore 6, 2) := by decide +kernel
theorem dX8_fits_33 : decode cX8_fits 33 = .ok (.iload 6, 2) := by decide +kernel
theorem dX8_fits_35 : decode cX8_fits 35 = .ok (.aload_n 0, 1) := by decide +kernel
theorem dX8_fits_36 : decode cX8_fits 36 = .ok (.invokevirtual 265, 3) := by decide +kernel
theorem dX8_fits_39 : decode cX8_fits 39 = .ok (.if_icmp .ge 68, 3) := by decide +kernel
theorem dX8_fits_42 : decode cX8_fits 42 = .ok (.aload_n 0, 1) := by decide +kernel
theorem dX8_fits_43 : decode cX8_fits 43 = .ok (.bipush 25, 2) := by decide +kernel
theorem dX8_fits_45 : decode cX8_fits 45 = .ok (.iload 6, 2) := by decide +kernel
theorem dX8_fits_47 : decode cX8_fits 47 = .ok (.invokevirtual 268, 3) := by decide +kernel
theorem dX8_fits_50 : decode cX8_fits 50 = .ok (.ifCond .eq 51, 3) := by decide +kernel
theorem dX8_fits_53 : decode cX8_fits 53 = .ok (.aload_n 0, 1) := by decide +kernel
theorem dX8_fits_54 : decode cX8_fits 54 = .ok (.invokevirtual 296, 3) := by decide +kernel
theorem dX8_fits_57 : decode cX8_fits 57 = .ok (.ifCond .eq 44, 3) := by decide +kernel
theorem dX8_fits_60 : decode cX8_fits 60 = .ok (.iload_n 3, 1) := by decide +kernel
theorem dX8_fits_61 : decode cX8_fits 61 = .ok (.ifCond .ne 8, 3) := by decide +kernel
theorem dX8_fits_64 : decode cX8_fits 64 = .ok (.iload 6, 2) := by decide +kernel
theorem dX8_fits_66 : decode cX8_fits 66 = .ok (.goto 5, 3) := by decide +kernel
theorem dX8_fits_69 : decode cX8_fits 69 = .ok (.iload 4, 2) := by decide +kernel
theorem dX8_fits_71 : decode cX8_fits 71 = .ok (.istore 4, 2) := by decide +kernel
theorem dX8_fits_73 : decode cX8_fits 73 = .ok (.iload 5, 2) := by decide +kernel
theorem dX8_fits_75 : decode cX8_fits 75 = .ok (.aload_n 0, 1) := by decide +kernel
theorem dX8_fits_76 : decode cX8_fits 76 = .ok (.getfield 167, 3) := by decide +kernel
theorem dX8_fits_79 : decode cX8_fits 79 = .ok (.ifCond .ne 7, 3) := by decide +kernel
theorem dX8_fits_82 : decode cX8_fits 82 = .ok (.iconst 0, 1) := by decide +kernel
theorem dX8_fits_83 : decode cX8_fits 83 = .ok (.goto 12, 3) := by decide +kernel
theorem dX8_fits_86 : decode cX8_fits 86 = .ok (.iconst 1, 1) := by decide +kernel
theorem dX8_fits_87 : decode cX8_fits 87 = .ok (.aload_n 0, 1) := by decide +kernel
theorem dX8_fits_88 : decode cX8_fits 88 = .ok (.bipush 25, 2) := by decide +kernel
theorem dX8_fits_90 : decode cX8_fits 90 = .ok (.iconst 0, 1) := by decide +kernel
theorem dX8_fits_91 : decode cX8_fits 91 = .ok (.invokevirtual 173, 3) := by decide +kernel
theorem dX8_fits_94 : decode cX8_fits 94 = .ok (.ishl, 1) := by decide +kernel
theorem dX8_fits_95 : decode cX8_fits 95 = .ok (.ior, 1) := by decide +kernel
theorem dX8_fits_96 : decode cX8_fits 96 = .ok (.istore 5, 2) := by decide +kernel
theorem dX8_fits_98 : decode cX8_fits 98 = .ok (.iinc 3 1, 3) := by decide +kernel
theorem dX8_fits_101 : decode cX8_fits 101 = .ok (.iinc 6 1, 3) := by decide +kernel
theorem dX8_fits_104 : decode cX8_fits 104 = .ok (.goto (-71), 3) := by decide +kernel
theorem dX8_fits_107 : decode cX8_fits 107 = .ok (.aload_n 0, 1) := by decide +kernel
theorem dX8_fits_108 : decode cX8_fits 108 = .ok (.bipush 25, 2) := by decide +kernel
theorem dX8_fits_110 : decode cX8_fits 110 = .ok (.iload_n 2, 1) := by decide +kernel
theorem dX8_fits_111 : decode cX8_fits 111 = .ok (.invokevirtual 268, 3) := by decide +kernel
theorem dX8_fits_114 : decode cX8_fits 114 = .ok (.pop, 1) := by decide +kernel
theorem dX8_fits_115 : decode cX8_fits 115 = .ok (.iload_n 1, 1) := by decide +kernel
theorem dX8_fits_116 : decode cX8_fits 116 = .ok (.ifCond .ne 7, 3) := by decide +kernel
theorem dX8_fits_119 : decode cX8_fits 119 = .ok (.iload_n 3, 1) := by decide +kernel
theorem dX8_fits_120 : decode cX8_fits 120 = .ok (.goto 15, 3) := by decide +kernel
theorem dX8_fits_123 : decode cX8_fits 123 = .ok (.iload_n 1, 1) := by decide +kernel
theorem dX8_fits_124 : decode cX8_fits 124 = .ok (.iconst 1, 1) := by decide +kernel
theorem dX8_fits_125 : decode cX8_fits 125 = .ok (.if_icmp .ne 8, 3) := by decide +kernel
theorem dX8_fits_128 : decode cX8_fits 128 = .ok (.iload 4, 2) := by decide +kernel
theorem dX8_fits_130 : decode cX8_fits 130 = .ok (.goto 5, 3) := by decide +kernel
theorem dX8_fits_133 : decode cX8_fits 133 = .ok (.iload 5, 2) := by decide +kernel
theorem dX8_fits_135 : decode cX8_fits 135 = .ok (.ireturn, 1) := by decide +kernel
theorem dX8_drift_0 : decode cX8_drift 0 = .ok (.iload_n 2, 1) := by decide +kernel
theorem dX8_drift_1 : decode cX8_drift 1 = .ok (.i2l, 1) := by decide +kernel
theorem dX8_drift_2 : decode cX8_drift 2 = .ok (.lconst 1, 1) := by decide +kernel
theorem dX8_drift_3 : decode cX8_drift 3 = .ok (.ldc2_w 192, 3) := by decide +kernel
theorem dX8_drift_6 : decode cX8_drift 6 = .ok (.invokestatic 70, 3) := by decide +kernel
theorem dX8_drift_9 : decode cX8_drift 9 = .ok (.ifCond .eq 13, 3) := by decide +kernel
theorem dX8_drift_12 : decode cX8_drift 12 = .ok (.iload_n 3, 1) := by decide +kernel
theorem dX8_drift_13 : decode cX8_drift 13 = .ok (.i2l, 1) := by decide +kernel
theorem dX8_drift_14 : decode cX8_drift 14 = .ok (.lconst 0, 1) := by decide +kernel
theorem dX8_drift_15 : decode cX8_drift 15 = .ok (.lconst 1, 1) := by decide +kernel
theorem dX8_drift_16 : decode cX8_drift 16 = .ok (.invokestatic 70, 3) := by decide +kernel
theorem dX8_drift_19 : decode cX8_drift 19 = .ok (.ifCond .ne 5, 3) := by decide +kernel
theorem dX8_drift_22 : decode cX8_drift 22 = .ok (.iconst (-1), 1) := by decide +kernel
theorem dX8_drift_23 : decode cX8_drift 23 = .ok (.ireturn, 1) := by decide +kernel
theorem dX8_drift_24 : decode cX8_drift 24 = .ok (.aload_n 0, 1) := by decide +kernel
theorem dX8_drift_25 : decode cX8_drift 25 = .ok (.getfield 167, 3) := by decide +kernel
theorem dX8_drift_28 : decode cX8_drift 28 = .ok (.ifCond .ne 6, 3) := by decide +kernel
theorem dX8_drift_31 : decode cX8_drift 31 = .ok (.bipush (-2), 2) := by decide +kernel
theorem dX8_drift_33 : decode cX8_drift 33 = .ok (.ireturn, 1) := by decide +kernel
theorem dX8_drift_34 : decode cX8_drift 34 = .ok (.iload_n 1, 1) := by decide +kernel
theorem dX8_drift_35 : decode cX8_drift 35 = .ok (.istore 4, 2) := by decide +kernel
theorem dX8_drift_37 : decode cX8_drift 37 = .ok (.iconst 0, 1) := by decide +kernel
theorem dX8_drift_38 : decode cX8_drift 38 = .ok (.istore 5, 2) := by decide +kernel
theorem dX8_drift_40 : decode cX8_drift 40 = .ok (.ldc_w 277, 3) := by decide +kernel
theorem dX8_drift_43 : decode cX8_drift 43 = .ok (.istore 6, 2) := by decide +kernel
theorem dX8_drift_45 : decode cX8_drift 45 = .ok (.aload_n 0, 1) := by decide +kernel
theorem dX8_drift_46 : decode cX8_drift 46 = .ok (.iconst 0, 1) := by decide +kernel
theorem dX8_drift_47 : decode cX8_drift 47 = .ok (.sipush 128, 3) := by decide +kernel
theorem dX8_drift_50 : decode cX8_drift 50 = .ok (.invokevirtual 300, 3) := by decide +kernel
theorem dX8_drift_53 : decode cX8_drift 53 = .ok (.iconst 0, 1) := by decide +kernel
theorem dX8_drift_54 : decode cX8_drift 54 = .ok (.istore 7, 2) := by decide +kernel
theorem dX8_drift_56 : decode cX8_drift 56 = .ok (.iload 7, 2) := by decide +kernel
theorem dX8_drift_58 : decode cX8_drift 58 = .ok (.iload_n 2, 1) := by decide +kernel
theorem dX8_drift_59 : decode cX8_drift 59 = .ok (.if_icmp .ge 89, 3) := by decide +kernel
theorem dX8_drift_62 : decode cX8_drift 62 = .ok (.iload 4, 2) := by decide +kernel
theorem dX8_drift_64 : decode cX8_drift 64 = .ok (.ldc_w 303, 3) := by decide +kernel
theorem dX8_drift_67 : decode cX8_drift 67 = .ok (.imul, 1) := by decide +kernel
theorem dX8_drift_68 : decode cX8_drift 68 = .ok (.sipush 12345, 3) := by decide +kernel
theorem dX8_drift_71 : decode cX8_drift 71 = .ok (.iadd, 1) := by decide +kernel
theorem dX8_drift_72 : decode cX8_drift 72 = .ok (.istore 4, 2) := by decide +kernel
theorem dX8_drift_74 : decode cX8_drift 74 = .ok (.aload_n 0, 1) := by decide +kernel
theorem dX8_drift_75 : decode cX8_drift 75 = .ok (.bipush 25, 2) := by decide +kernel
theorem dX8_drift_77 : decode cX8_drift 77 = .ok (.iload 4, 2) := by decide +kernel
theorem dX8_drift_79 : decode cX8_drift 79 = .ok (.bipush 16, 2) := by decide +kernel
theorem dX8_drift_81 : decode cX8_drift 81 = .ok (.ishr, 1) := by decide +kernel
theorem dX8_drift_82 : decode cX8_drift 82 = .ok (.sipush 32767, 3) := by decide +kernel
theorem dX8_drift_85 : decode cX8_drift 85 = .ok (.iand, 1) := by decide +kernel
theorem dX8_drift_86 : decode cX8_drift 86 = .ok (.aload_n 0, 1) := by decide +kernel
theorem dX8_drift_87 : decode cX8_drift 87 = .ok (.getfield 167, 3) := by decide +kernel
theorem dX8_drift_90 : decode cX8_drift 90 = .ok (.irem, 1) := by decide +kernel
theorem dX8_drift_91 : decode cX8_drift 91 = .ok (.invokevirtual 202, 3) := by decide +kernel
theorem dX8_drift_94 : decode cX8_drift 94 = .ok (.aload_n 0, 1) := by decide +kernel
theorem dX8_drift_95 : decode cX8_drift 95 = .ok (.invokevirtual 245, 3) := by decide +kernel
theorem dX8_drift_98 : decode cX8_drift 98 = .ok (.istore 8, 2) := by decide +kernel
theorem dX8_drift_100 : decode cX8_drift 100 = .ok (.aload_n 0, 1) := by decide +kernel
theorem dX8_drift_101 : decode cX8_drift 101 = .ok (.aload_n 0, 1) := by decide +kernel
theorem dX8_drift_102 : decode cX8_drift 102 = .ok (.invokevirtual 239, 3) := by decide +kernel
theorem dX8_drift_105 : decode cX8_drift 105 = .ok (.invokevirtual 248, 3) := by decide +kernel
theorem dX8_drift_108 : decode cX8_drift 108 = .ok (.istore 9, 2) := by decide +kernel
theorem dX8_drift_110 : decode cX8_drift 110 = .ok (.iload 8, 2) := by decide +kernel
theorem dX8_drift_112 : decode cX8_drift 112 = .ok (.iload 6, 2) := by decide +kernel
theorem dX8_drift_114 : decode cX8_drift 114 = .ok (.if_icmp .ge 8, 3) := by decide +kernel
theorem dX8_drift_117 : decode cX8_drift 117 = .ok (.iload 8, 2) := by decide +kernel
theorem dX8_drift_119 : decode cX8_drift 119 = .ok (.goto 5, 3) := by decide +kernel
theorem dX8_drift_122 : decode cX8_drift 122 = .ok (.iload 6, 2) := by decide +kernel
theorem dX8_drift_124 : decode cX8_drift 124 = .ok (.istore 6, 2) := by decide +kernel
theorem dX8_drift_126 : decode cX8_drift 126 = .ok (.iload 9, 2) := by decide +kernel
theorem dX8_drift_128 : decode cX8_drift 128 = .ok (.iload 5, 2) := by decide +kernel
theorem dX8_drift_130 : decode cX8_drift 130 = .ok (.if_icmp .le 8, 3) := by decide +kernel
theorem dX8_drift_133 : decode cX8_drift 133 = .ok (.iload 9, 2) := by decide +kernel
theorem dX8_drift_135 : decode cX8_drift 135 = .ok (.goto 5, 3) := by decide +kernel
theorem dX8_drift_138 : decode cX8_drift 138 = .ok (.iload 5, 2) := by decide +kernel
theorem dX8_drift_140 : decode cX8_drift 140 = .ok (.istore 5, 2) := by decide +kernel
theorem dX8_drift_142 : decode cX8_drift 142 = .ok (.iinc 7 1, 3) := by decide +kernel
theorem dX8_drift_145 : decode cX8_drift 145 = .ok (.goto (-89), 3) := by decide +kernel
theorem dX8_drift_148 : decode cX8_drift 148 = .ok (.aload_n 0, 1) := by decide +kernel
theorem dX8_drift_149 : decode cX8_drift 149 = .ok (.sipush 128, 3) := by decide +kernel
theorem dX8_drift_152 : decode cX8_drift 152 = .ok (.iconst 0, 1) := by decide +kernel
theorem dX8_drift_153 : decode cX8_drift 153 = .ok (.invokevirtual 300, 3) := by decide +kernel
theorem dX8_drift_156 : decode cX8_drift 156 = .ok (.iload_n 3, 1) := by decide +kernel
theorem dX8_drift_157 : decode cX8_drift 157 = .ok (.ifCond .ne 8, 3) := by decide +kernel
theorem dX8_drift_160 : decode cX8_drift 160 = .ok (.iload 5, 2) := by decide +kernel
theorem dX8_drift_162 : decode cX8_drift 162 = .ok (.goto 5, 3) := by decide +kernel
theorem dX8_drift_165 : decode cX8_drift 165 = .ok (.iload 6, 2) := by decide +kernel
theorem dX8_drift_167 : decode cX8_drift 167 = .ok (.ireturn, 1) := by decide +kernel
theorem dX8_keep_0 : decode cX8_keep 0 = .ok (.iload_n 1, 1) := by decide +kernel
theorem dX8_keep_1 : decode cX8_keep 1 = .ok (.i2l, 1) := by decide +kernel
theorem dX8_keep_2 : decode cX8_keep 2 = .ok (.lconst 0, 1) := by decide +kernel
theorem dX8_keep_3 : decode cX8_keep 3 = .ok (.lconst 1, 1) := by decide +kernel
theorem dX8_keep_4 : decode cX8_keep 4 = .ok (.invokestatic 70, 3) := by decide +kernel
theorem dX8_keep_7 : decode cX8_keep 7 = .ok (.ifCond .ne 5, 3) := by decide +kernel
theorem dX8_keep_10 : decode cX8_keep 10 = .ok (.iconst (-1), 1) := by decide +kernel
theorem dX8_keep_11 : decode cX8_keep 11 = .ok (.ireturn, 1) := by decide +kernel
theorem dX8_keep_12 : decode cX8_keep 12 = .ok (.aload_n 0, 1) := by decide +kernel
theorem dX8_keep_13 : decode cX8_keep 13 = .ok (.iconst 0, 1) := by decide +kernel
theorem dX8_keep_14 : decode cX8_keep 14 = .ok (.bipush 32, 2) := by decide +kernel
theorem dX8_keep_16 : decode cX8_keep 16 = .ok (.iload_n 1, 1) := by decide +kernel
theorem dX8_keep_17 : decode cX8_keep 17 = .ok (.iconst 1, 1) := by decide +kernel
theorem dX8_keep_18 : decode cX8_keep 18 = .ok (.iadd, 1) := by decide +kernel
theorem dX8_keep_19 : decode cX8_keep 19 = .ok (.imul, 1) := by decide +kernel
theorem dX8_keep_20 : decode cX8_keep 20 = .ok (.invokevirtual 300, 3) := by decide +kernel
theorem dX8_keep_23 : decode cX8_keep 23 = .ok (.aload_n 0, 1) := by decide +kernel
theorem dX8_keep_24 : decode cX8_keep 24 = .ok (.getfield 55, 3) := by decide +kernel
theorem dX8_keep_27 : decode cX8_keep 27 = .ok (.iload_n 1, 1) := by decide +kernel
theorem dX8_keep_28 : decode cX8_keep 28 = .ok (.baload, 1) := by decide +kernel
theorem dX8_keep_29 : decode cX8_keep 29 = .ok (.ifCond .eq 7, 3) := by decide +kernel
theorem dX8_keep_32 : decode cX8_keep 32 = .ok (.iconst 1, 1) := by decide +kernel
theorem dX8_keep_33 : decode cX8_keep 33 = .ok (.goto 4, 3) := by decide +kernel
theorem dX8_keep_36 : decode cX8_keep 36 = .ok (.iconst 0, 1) := by decide +kernel
theorem dX8_keep_37 : decode cX8_keep 37 = .ok (.istore_n 2, 1) := by decide +kernel
theorem dX8_keep_38 : decode cX8_keep 38 = .ok (.aload_n 0, 1) := by decide +kernel
theorem dX8_keep_39 : decode cX8_keep 39 = .ok (.getfield 55, 3) := by decide +kernel
theorem dX8_keep_42 : decode cX8_keep 42 = .ok (.iload_n 1, 1) := by decide +kernel
theorem dX8_keep_43 : decode cX8_keep 43 = .ok (.iconst 1, 1) := by decide +kernel
theorem dX8_keep_44 : decode cX8_keep 44 = .ok (.bastore, 1) := by decide +kernel
theorem dX8_keep_45 : decode cX8_keep 45 = .ok (.iload_n 2, 1) := by decide +kernel
theorem dX8_keep_46 : decode cX8_keep 46 = .ok (.ireturn, 1) := by decide +kernel
theorem dX8_undo_0 : decode cX8_undo 0 = .ok (.iload_n 1, 1) := by decide +kernel
theorem dX8_undo_1 : decode cX8_undo 1 = .ok (.i2l, 1) := by decide +kernel
theorem dX8_undo_2 : decode cX8_undo 2 = .ok (.lconst 0, 1) := by decide +kernel
theorem dX8_undo_3 : decode cX8_undo 3 = .ok (.lconst 1, 1) := by decide +kernel
theorem dX8_undo_4 : decode cX8_undo 4 = .ok (.invokestatic 70, 3) := by decide +kernel
theorem dX8_undo_7 : decode cX8_undo 7 = .ok (.ifCond .ne 5, 3) := by decide +kernel
theorem dX8_undo_10 : decode cX8_undo 10 = .ok (.iconst (-1), 1) := by decide +kernel
theorem dX8_undo_11 : decode cX8_undo 11 = .ok (.ireturn, 1) := by decide +kernel
theorem dX8_undo_12 : decode cX8_undo 12 = .ok (.aload_n 0, 1) := by decide +kernel
theorem dX8_undo_13 : decode cX8_undo 13 = .ok (.getfield 55, 3) := by decide +kernel
theorem dX8_undo_16 : decode cX8_undo 16 = .ok (.iload_n 1, 1) := by decide +kernel
theorem dX8_undo_17 : decode cX8_undo 17 = .ok (.baload, 1) := by decide +kernel
theorem dX8_undo_18 : decode cX8_undo 18 = .ok (.ifCond .ne 6, 3) := by decide +kernel
theorem dX8_undo_21 : decode cX8_undo 21 = .ok (.bipush (-2), 2) := by decide +kernel
theorem dX8_undo_23 : decode cX8_undo 23 = .ok (.ireturn, 1) := by decide +kernel
theorem dX8_undo_24 : decode cX8_undo 24 = .ok (.aload_n 0, 1) := by decide +kernel
theorem dX8_undo_25 : decode cX8_undo 25 = .ok (.bipush 32, 2) := by decide +kernel
theorem dX8_undo_27 : decode cX8_undo 27 = .ok (.iload_n 1, 1) := by decide +kernel
theorem dX8_undo_28 : decode cX8_undo 28 = .ok (.iconst 1, 1) := by decide +kernel
theorem dX8_undo_29 : decode cX8_undo 29 = .ok (.iadd, 1) := by decide +kernel
theorem dX8_undo_30 : decode cX8_undo 30 = .ok (.imul, 1) := by decide +kernel
theorem dX8_undo_31 : decode cX8_undo 31 = .ok (.iconst 0, 1) := by decide +kernel
theorem dX8_undo_32 : decode cX8_undo 32 = .ok (.invokevirtual 300, 3) := by decide +kernel
theorem dX8_undo_35 : decode cX8_undo 35 = .ok (.aload_n 0, 1) := by decide +kernel
theorem dX8_undo_36 : decode cX8_undo 36 = .ok (.getfield 7, 3) := by decide +kernel
theorem dX8_undo_39 : decode cX8_undo 39 = .ok (.bipush 31, 2) := by decide +kernel
theorem dX8_undo_41 : decode cX8_undo 41 = .ok (.iaload, 1) := by decide +kernel
theorem dX8_undo_42 : decode cX8_undo 42 = .ok (.ireturn, 1) := by decide +kernel
theorem dX8_sheet_0 : decode cX8_sheet 0 = .ok (.iload_n 1, 1) := by decide +kernel
theorem dX8_sheet_1 : decode cX8_sheet 1 = .ok (.i2l, 1) := by decide +kernel
theorem dX8_sheet_2 : decode cX8_sheet 2 = .ok (.lconst 0, 1) := by decide +kernel
theorem dX8_sheet_3 : decode cX8_sheet 3 = .ok (.ldc2_w 275, 3) := by decide +kernel
theorem dX8_sheet_6 : decode cX8_sheet 6 = .ok (.invokestatic 70, 3) := by decide +kernel
theorem dX8_sheet_9 : decode cX8_sheet 9 = .ok (.ifCond .eq 21, 3) := by decide +kernel
theorem dX8_sheet_12 : decode cX8_sheet 12 = .ok (.iload_n 2, 1) := by decide +kernel
theorem dX8_sheet_13 : decode cX8_sheet 13 = .ok (.i2l, 1) := by decide +kernel
theorem dX8_sheet_14 : decode cX8_sheet 14 = .ok (.lconst 0, 1) := by decide +kernel
theorem dX8_sheet_15 : decode cX8_sheet 15 = .ok (.ldc2_w 251, 3) := by decide +kernel
theorem dX8_sheet_18 : decode cX8_sheet 18 = .ok (.invokestatic 70, 3) := by decide +kernel
theorem dX8_sheet_21 : decode cX8_sheet 21 = .ok (.ifCond .eq 9, 3) := by decide +kernel
theorem dX8_sheet_24 : decode cX8_sheet 24 = .ok (.iload_n 3, 1) := by decide +kernel
theorem dX8_sheet_25 : decode cX8_sheet 25 = .ok (.bipush 40, 2) := by decide +kernel
theorem dX8_sheet_27 : decode cX8_sheet 27 = .ok (.if_icmp .le 5, 3) := by decide +kernel
theorem dX8_sheet_30 : decode cX8_sheet 30 = .ok (.iconst (-1), 1) := by decide +kernel
theorem dX8_sheet_31 : decode cX8_sheet 31 = .ok (.ireturn, 1) := by decide +kernel
theorem dX8_sheet_32 : decode cX8_sheet 32 = .ok (.iload_n 3, 1) := by decide +kernel
theorem dX8_sheet_33 : decode cX8_sheet 33 = .ok (.ifCond .ge 6, 3) := by decide +kernel
theorem dX8_sheet_36 : decode cX8_sheet 36 = .ok (.bipush (-14), 2) := by decide +kernel
theorem dX8_sheet_38 : decode cX8_sheet 38 = .ok (.ireturn, 1) := by decide +kernel
theorem dX8_sheet_39 : decode cX8_sheet 39 = .ok (.aload_n 0, 1) := by decide +kernel
theorem dX8_sheet_40 : decode cX8_sheet 40 = .ok (.getfield 59, 3) := by decide +kernel
theorem dX8_sheet_43 : decode cX8_sheet 43 = .ok (.iload_n 1, 1) := by decide +kernel
theorem dX8_sheet_44 : decode cX8_sheet 44 = .ok (.iload_n 2, 1) := by decide +kernel
theorem dX8_sheet_45 : decode cX8_sheet 45 = .ok (.iastore, 1) := by decide +kernel
theorem dX8_sheet_46 : decode cX8_sheet 46 = .ok (.aload_n 0, 1) := by decide +kernel
theorem dX8_sheet_47 : decode cX8_sheet 47 = .ok (.getfield 62, 3) := by decide +kernel
theorem dX8_sheet_50 : decode cX8_sheet 50 = .ok (.iload_n 1, 1) := by decide +kernel
theorem dX8_sheet_51 : decode cX8_sheet 51 = .ok (.iload_n 3, 1) := by decide +kernel
theorem dX8_sheet_52 : decode cX8_sheet 52 = .ok (.iastore, 1) := by decide +kernel
theorem dX8_sheet_53 : decode cX8_sheet 53 = .ok (.iconst 0, 1) := by decide +kernel
theorem dX8_sheet_54 : decode cX8_sheet 54 = .ok (.istore 4, 2) := by decide +kernel
theorem dX8_sheet_56 : decode cX8_sheet 56 = .ok (.iload 4, 2) := by decide +kernel
theorem dX8_sheet_58 : decode cX8_sheet 58 = .ok (.bipush 40, 2) := by decide +kernel
theorem dX8_sheet_60 : decode cX8_sheet 60 = .ok (.if_icmp .ge 22, 3) := by decide +kernel
theorem dX8_sheet_63 : decode cX8_sheet 63 = .ok (.aload_n 0, 1) := by decide +kernel
theorem dX8_sheet_64 : decode cX8_sheet 64 = .ok (.getfield 65, 3) := by decide +kernel
theorem dX8_sheet_67 : decode cX8_sheet 67 = .ok (.bipush 40, 2) := by decide +kernel
theorem dX8_sheet_69 : decode cX8_sheet 69 = .ok (.iload_n 1, 1) := by decide +kernel
theorem dX8_sheet_70 : decode cX8_sheet 70 = .ok (.imul, 1) := by decide +kernel
theorem dX8_sheet_71 : decode cX8_sheet 71 = .ok (.iload 4, 2) := by decide +kernel
theorem dX8_sheet_73 : decode cX8_sheet 73 = .ok (.iadd, 1) := by decide +kernel
theorem dX8_sheet_74 : decode cX8_sheet 74 = .ok (.iconst 0, 1) := by decide +kernel
theorem dX8_sheet_75 : decode cX8_sheet 75 = .ok (.iastore, 1) := by decide +kernel
theorem dX8_sheet_76 : decode cX8_sheet 76 = .ok (.iinc 4 1, 3) := by decide +kernel
theorem dX8_sheet_79 : decode cX8_sheet 79 = .ok (.goto (-23), 3) := by decide +kernel
theorem dX8_sheet_82 : decode cX8_sheet 82 = .ok (.iconst 1, 1) := by decide +kernel
theorem dX8_sheet_83 : decode cX8_sheet 83 = .ok (.ireturn, 1) := by decide +kernel
theorem dX8_lay_0 : decode cX8_lay 0 = .ok (.iload_n 1, 1) := by decide +kernel
theorem dX8_lay_1 : decode cX8_lay 1 = .ok (.i2l, 1) := by decide +kernel
theorem dX8_lay_2 : decode cX8_lay 2 = .ok (.lconst 0, 1) := by decide +kernel
theorem dX8_lay_3 : decode cX8_lay 3 = .ok (.ldc2_w 275, 3) := by decide +kernel
theorem dX8_lay_6 : decode cX8_lay 6 = .ok (.invokestatic 70, 3) := by decide +kernel
theorem dX8_lay_9 : decode cX8_lay 9 = .ok (.ifCond .ne 5, 3) := by decide +kernel
theorem dX8_lay_12 : decode cX8_lay 12 = .ok (.iconst (-1), 1) := by decide +kernel
theorem dX8_lay_13 : decode cX8_lay 13 = .ok (.ireturn, 1) := by decide +kernel
theorem dX8_lay_14 : decode cX8_lay 14 = .ok (.aload_n 0, 1) := by decide +kernel
theorem dX8_lay_15 : decode cX8_lay 15 = .ok (.getfield 59, 3) := by decide +kernel
theorem dX8_lay_18 : decode cX8_lay 18 = .ok (.iload_n 1, 1) := by decide +kernel
theorem dX8_lay_19 : decode cX8_lay 19 = .ok (.iaload, 1) := by decide +kernel
theorem dX8_lay_20 : decode cX8_lay 20 = .ok (.bipush (-4), 2) := by decide +kernel
theorem dX8_lay_22 : decode cX8_lay 22 = .ok (.if_icmp .ne 6, 3) := by decide +kernel
theorem dX8_lay_25 : decode cX8_lay 25 = .ok (.bipush (-11), 2) := by decide +kernel
theorem dX8_lay_27 : decode cX8_lay 27 = .ok (.ireturn, 1) := by decide +kernel
theorem dX8_lay_28 : decode cX8_lay 28 = .ok (.iload_n 2, 1) := by decide +kernel
theorem dX8_lay_29 : decode cX8_lay 29 = .ok (.i2l, 1) := by decide +kernel
theorem dX8_lay_30 : decode cX8_lay 30 = .ok (.lconst 0, 1) := by decide +kernel
theorem dX8_lay_31 : decode cX8_lay 31 = .ok (.aload_n 0, 1) := by decide +kernel
theorem dX8_lay_32 : decode cX8_lay 32 = .ok (.getfield 62, 3) := by decide +kernel
theorem dX8_lay_35 : decode cX8_lay 35 = .ok (.iload_n 1, 1) := by decide +kernel
theorem dX8_lay_36 : decode cX8_lay 36 = .ok (.iaload, 1) := by decide +kernel
theorem dX8_lay_37 : decode cX8_lay 37 = .ok (.iconst 1, 1) := by decide +kernel
theorem dX8_lay_38 : decode cX8_lay 38 = .ok (.isub, 1) := by decide +kernel
theorem dX8_lay_39 : decode cX8_lay 39 = .ok (.i2l, 1) := by decide +kernel
theorem dX8_lay_40 : decode cX8_lay 40 = .ok (.invokestatic 70, 3) := by decide +kernel
theorem dX8_lay_43 : decode cX8_lay 43 = .ok (.ifCond .ne 6, 3) := by decide +kernel
theorem dX8_lay_46 : decode cX8_lay 46 = .ok (.bipush (-12), 2) := by decide +kernel
theorem dX8_lay_48 : decode cX8_lay 48 = .ok (.ireturn, 1) := by decide +kernel
theorem dX8_lay_49 : decode cX8_lay 49 = .ok (.aload_n 0, 1) := by decide +kernel
theorem dX8_lay_50 : decode cX8_lay 50 = .ok (.getfield 65, 3) := by decide +kernel
theorem dX8_lay_53 : decode cX8_lay 53 = .ok (.bipush 40, 2) := by decide +kernel
theorem dX8_lay_55 : decode cX8_lay 55 = .ok (.iload_n 1, 1) := by decide +kernel
theorem dX8_lay_56 : decode cX8_lay 56 = .ok (.imul, 1) := by decide +kernel
theorem dX8_lay_57 : decode cX8_lay 57 = .ok (.iload_n 2, 1) := by decide +kernel
theorem dX8_lay_58 : decode cX8_lay 58 = .ok (.iadd, 1) := by decide +kernel
theorem dX8_lay_59 : decode cX8_lay 59 = .ok (.aload_n 0, 1) := by decide +kernel
theorem dX8_lay_60 : decode cX8_lay 60 = .ok (.getfield 59, 3) := by decide +kernel
theorem dX8_lay_63 : decode cX8_lay 63 = .ok (.iload_n 1, 1) := by decide +kernel
theorem dX8_lay_64 : decode cX8_lay 64 = .ok (.iaload, 1) := by decide +kernel
theorem dX8_lay_65 : decode cX8_lay 65 = .ok (.ifCond .ne 13, 3) := by decide +kernel
theorem dX8_lay_68 : decode cX8_lay 68 = .ok (.iload_n 3, 1) := by decide +kernel
theorem dX8_lay_69 : decode cX8_lay 69 = .ok (.bipush 24, 2) := by decide +kernel
theorem dX8_lay_71 : decode cX8_lay 71 = .ok (.ishl, 1) := by decide +kernel
theorem dX8_lay_72 : decode cX8_lay 72 = .ok (.bipush 24, 2) := by decide +kernel
theorem dX8_lay_74 : decode cX8_lay 74 = .ok (.ishr, 1) := by decide +kernel
theorem dX8_lay_75 : decode cX8_lay 75 = .ok (.goto 24, 3) := by decide +kernel
theorem dX8_lay_78 : decode cX8_lay 78 = .ok (.aload_n 0, 1) := by decide +kernel
theorem dX8_lay_79 : decode cX8_lay 79 = .ok (.getfield 59, 3) := by decide +kernel
theorem dX8_lay_82 : decode cX8_lay 82 = .ok (.iload_n 1, 1) := by decide +kernel
theorem dX8_lay_83 : decode cX8_lay 83 = .ok (.iaload, 1) := by decide +kernel
theorem dX8_lay_84 : decode cX8_lay 84 = .ok (.iconst 1, 1) := by decide +kernel
theorem dX8_lay_85 : decode cX8_lay 85 = .ok (.if_icmp .ne 13, 3) := by decide +kernel
theorem dX8_lay_88 : decode cX8_lay 88 = .ok (.iload_n 3, 1) := by decide +kernel
theorem dX8_lay_89 : decode cX8_lay 89 = .ok (.bipush 16, 2) := by decide +kernel
theorem dX8_lay_91 : decode cX8_lay 91 = .ok (.ishl, 1) := by decide +kernel
theorem dX8_lay_92 : decode cX8_lay 92 = .ok (.bipush 16, 2) := by decide +kernel
theorem dX8_lay_94 : decode cX8_lay 94 = .ok (.ishr, 1) := by decide +kernel
theorem dX8_lay_95 : decode cX8_lay 95 = .ok (.goto 4, 3) := by decide +kernel
theorem dX8_lay_98 : decode cX8_lay 98 = .ok (.iload_n 3, 1) := by decide +kernel
theorem dX8_lay_99 : decode cX8_lay 99 = .ok (.iastore, 1) := by decide +kernel
theorem dX8_lay_100 : decode cX8_lay 100 = .ok (.iconst 1, 1) := by decide +kernel
theorem dX8_lay_101 : decode cX8_lay 101 = .ok (.ireturn, 1) := by decide +kernel
theorem dX8_read_0 : decode cX8_read 0 = .ok (.iload_n 1, 1) := by decide +kernel
theorem dX8_read_1 : decode cX8_read 1 = .ok (.i2l, 1) := by decide +kernel
theorem dX8_read_2 : decode cX8_read 2 = .ok (.lconst 0, 1) := by decide +kernel
theorem dX8_read_3 : decode cX8_read 3 = .ok (.ldc2_w 275, 3) := by decide +kernel
theorem dX8_read_6 : decode cX8_read 6 = .ok (.invokestatic 70, 3) := by decide +kernel
theorem dX8_read_9 : decode cX8_read 9 = .ok (.ifCond .eq 28, 3) := by decide +kernel
theorem dX8_read_12 : decode cX8_read 12 = .ok (.iload_n 2, 1) := by decide +kernel
theorem dX8_read_13 : decode cX8_read 13 = .ok (.i2l, 1) := by decide +kernel
theorem dX8_read_14 : decode cX8_read 14 = .ok (.lconst 0, 1) := by decide +kernel
theorem dX8_read_15 : decode cX8_read 15 = .ok (.ldc2_w 251, 3) := by decide +kernel
theorem dX8_read_18 : decode cX8_read 18 = .ok (.invokestatic 70, 3) := by decide +kernel
theorem dX8_read_21 : decode cX8_read 21 = .ok (.ifCond .eq 16, 3) := by decide +kernel
theorem dX8_read_24 : decode cX8_read 24 = .ok (.iload 4, 2) := by decide +kernel
theorem dX8_read_26 : decode cX8_read 26 = .ok (.i2l, 1) := by decide +kernel
theorem dX8_read_27 : decode cX8_read 27 = .ok (.lconst 0, 1) := by decide +kernel
theorem dX8_read_28 : decode cX8_read 28 = .ok (.ldc2_w 304, 3) := by decide +kernel
theorem dX8_read_31 : decode cX8_read 31 = .ok (.invokestatic 70, 3) := by decide +kernel
theorem dX8_read_34 : decode cX8_read 34 = .ok (.ifCond .ne 5, 3) := by decide +kernel
theorem dX8_read_37 : decode cX8_read 37 = .ok (.iconst (-1), 1) := by decide +kernel
theorem dX8_read_38 : decode cX8_read 38 = .ok (.ireturn, 1) := by decide +kernel
theorem dX8_read_39 : decode cX8_read 39 = .ok (.aload_n 0, 1) := by decide +kernel
theorem dX8_read_40 : decode cX8_read 40 = .ok (.iconst 0, 1) := by decide +kernel
theorem dX8_read_41 : decode cX8_read 41 = .ok (.bipush 96, 2) := by decide +kernel
theorem dX8_read_43 : decode cX8_read 43 = .ok (.invokevirtual 300, 3) := by decide +kernel
theorem dX8_read_46 : decode cX8_read 46 = .ok (.iconst 0, 1) := by decide +kernel
theorem dX8_read_47 : decode cX8_read 47 = .ok (.istore 5, 2) := by decide +kernel
theorem dX8_read_49 : decode cX8_read 49 = .ok (.iconst 0, 1) := by decide +kernel
theorem dX8_read_50 : decode cX8_read 50 = .ok (.istore 6, 2) := by decide +kernel
theorem dX8_read_52 : decode cX8_read 52 = .ok (.iconst 0, 1) := by decide +kernel
theorem dX8_read_53 : decode cX8_read 53 = .ok (.istore 7, 2) := by decide +kernel
theorem dX8_read_55 : decode cX8_read 55 = .ok (.iload 7, 2) := by decide +kernel
theorem dX8_read_57 : decode cX8_read 57 = .ok (.iconst 2, 1) := by decide +kernel
theorem dX8_read_58 : decode cX8_read 58 = .ok (.iload 4, 2) := by decide +kernel
theorem dX8_read_60 : decode cX8_read 60 = .ok (.imul, 1) := by decide +kernel
theorem dX8_read_61 : decode cX8_read 61 = .ok (.if_icmp .ge 137, 3) := by decide +kernel
theorem dX8_read_64 : decode cX8_read 64 = .ok (.iload 5, 2) := by decide +kernel
theorem dX8_read_66 : decode cX8_read 66 = .ok (.ifCond .ne 132, 3) := by decide +kernel
theorem dX8_read_69 : decode cX8_read 69 = .ok (.aload_n 0, 1) := by decide +kernel
theorem dX8_read_70 : decode cX8_read 70 = .ok (.getfield 59, 3) := by decide +kernel
theorem dX8_read_73 : decode cX8_read 73 = .ok (.iload_n 1, 1) := by decide +kernel
theorem dX8_read_74 : decode cX8_read 74 = .ok (.iaload, 1) := by decide +kernel
theorem dX8_read_75 : decode cX8_read 75 = .ok (.bipush (-4), 2) := by decide +kernel
theorem dX8_read_77 : decode cX8_read 77 = .ok (.if_icmp .ne 7, 3) := by decide +kernel
theorem dX8_read_80 : decode cX8_read 80 = .ok (.iconst 1, 1) := by decide +kernel
theorem dX8_read_81 : decode cX8_read 81 = .ok (.goto 44, 3) := by decide +kernel
theorem dX8_read_84 : decode cX8_read 84 = .ok (.aload_n 0, 1) := by decide +kernel
theorem dX8_read_85 : decode cX8_read 85 = .ok (.getfield 59, 3) := by decide +kernel
theorem dX8_read_88 : decode cX8_read 88 = .ok (.iload_n 1, 1) := by decide +kernel
theorem dX8_read_89 : decode cX8_read 89 = .ok (.iaload, 1) := by decide +kernel
theorem dX8_read_90 : decode cX8_read 90 = .ok (.iload_n 2, 1) := by decide +kernel
theorem dX8_read_91 : decode cX8_read 91 = .ok (.if_icmp .eq 7, 3) := by decide +kernel
theorem dX8_read_94 : decode cX8_read 94 = .ok (.iconst 3, 1) := by decide +kernel
theorem dX8_read_95 : decode cX8_read 95 = .ok (.goto 30, 3) := by decide +kernel
theorem dX8_read_98 : decode cX8_read 98 = .ok (.iload_n 3, 1) := by decide +kernel
theorem dX8_read_99 : decode cX8_read 99 = .ok (.i2l, 1) := by decide +kernel
theorem dX8_read_100 : decode cX8_read 100 = .ok (.iload 7, 2) := by decide +kernel
theorem dX8_read_102 : decode cX8_read 102 = .ok (.i2l, 1) := by decide +kernel
theorem dX8_read_103 : decode cX8_read 103 = .ok (.ladd, 1) := by decide +kernel
theorem dX8_read_104 : decode cX8_read 104 = .ok (.lconst 0, 1) := by decide +kernel
theorem dX8_read_105 : decode cX8_read 105 = .ok (.aload_n 0, 1) := by decide +kernel
theorem dX8_read_106 : decode cX8_read 106 = .ok (.getfield 62, 3) := by decide +kernel
theorem dX8_read_109 : decode cX8_read 109 = .ok (.iload_n 1, 1) := by decide +kernel
theorem dX8_read_110 : decode cX8_read 110 = .ok (.iaload, 1) := by decide +kernel
theorem dX8_read_111 : decode cX8_read 111 = .ok (.iconst 1, 1) := by decide +kernel
theorem dX8_read_112 : decode cX8_read 112 = .ok (.isub, 1) := by decide +kernel
theorem dX8_read_113 : decode cX8_read 113 = .ok (.i2l, 1) := by decide +kernel
theorem dX8_read_114 : decode cX8_read 114 = .ok (.invokestatic 70, 3) := by decide +kernel
theorem dX8_read_117 : decode cX8_read 117 = .ok (.ifCond .ne 7, 3) := by decide +kernel
theorem dX8_read_120 : decode cX8_read 120 = .ok (.iconst 2, 1) := by decide +kernel
theorem dX8_read_121 : decode cX8_read 121 = .ok (.goto 4, 3) := by decide +kernel
theorem dX8_read_124 : decode cX8_read 124 = .ok (.iconst 0, 1) := by decide +kernel
theorem dX8_read_125 : decode cX8_read 125 = .ok (.istore 5, 2) := by decide +kernel
theorem dX8_read_127 : decode cX8_read 127 = .ok (.iload 5, 2) := by decide +kernel
theorem dX8_read_129 : decode cX8_read 129 = .ok (.ifCond .ne 63, 3) := by decide +kernel
theorem dX8_read_132 : decode cX8_read 132 = .ok (.iload 7, 2) := by decide +kernel
theorem dX8_read_134 : decode cX8_read 134 = .ok (.iconst 2, 1) := by decide +kernel
theorem dX8_read_135 : decode cX8_read 135 = .ok (.irem, 1) := by decide +kernel
theorem dX8_read_136 : decode cX8_read 136 = .ok (.iconst 1, 1) := by decide +kernel
theorem dX8_read_137 : decode cX8_read 137 = .ok (.if_icmp .ne 55, 3) := by decide +kernel
theorem dX8_read_140 : decode cX8_read 140 = .ok (.bipush 40, 2) := by decide +kernel
theorem dX8_read_142 : decode cX8_read 142 = .ok (.iload_n 1, 1) := by decide +kernel
theorem dX8_read_143 : decode cX8_read 143 = .ok (.imul, 1) := by decide +kernel
theorem dX8_read_144 : decode cX8_read 144 = .ok (.iload_n 3, 1) := by decide +kernel
theorem dX8_read_145 : decode cX8_read 145 = .ok (.iadd, 1) := by decide +kernel
theorem dX8_read_146 : decode cX8_read 146 = .ok (.iload 7, 2) := by decide +kernel
theorem dX8_read_148 : decode cX8_read 148 = .ok (.iadd, 1) := by decide +kernel
theorem dX8_read_149 : decode cX8_read 149 = .ok (.istore 8, 2) := by decide +kernel
theorem dX8_read_151 : decode cX8_read 151 = .ok (.aload_n 0, 1) := by decide +kernel
theorem dX8_read_152 : decode cX8_read 152 = .ok (.bipush 25, 2) := by decide +kernel
theorem dX8_read_154 : decode cX8_read 154 = .ok (.aload_n 0, 1) := by decide +kernel
theorem dX8_read_155 : decode cX8_read 155 = .ok (.getfield 65, 3) := by decide +kernel
theorem dX8_read_158 : decode cX8_read 158 = .ok (.iload 8, 2) := by decide +kernel
theorem dX8_read_160 : decode cX8_read 160 = .ok (.iconst 1, 1) := by decide +kernel
theorem dX8_read_161 : decode cX8_read 161 = .ok (.isub, 1) := by decide +kernel
theorem dX8_read_162 : decode cX8_read 162 = .ok (.iaload, 1) := by decide +kernel
theorem dX8_read_163 : decode cX8_read 163 = .ok (.aload_n 0, 1) := by decide +kernel
theorem dX8_read_164 : decode cX8_read 164 = .ok (.getfield 65, 3) := by decide +kernel
theorem dX8_read_167 : decode cX8_read 167 = .ok (.iload 8, 2) := by decide +kernel
theorem dX8_read_169 : decode cX8_read 169 = .ok (.iaload, 1) := by decide +kernel
theorem dX8_read_170 : decode cX8_read 170 = .ok (.invokevirtual 198, 3) := by decide +kernel
theorem dX8_read_173 : decode cX8_read 173 = .ok (.ifCond .ge 16, 3) := by decide +kernel
theorem dX8_read_176 : decode cX8_read 176 = .ok (.aload_n 0, 1) := by decide +kernel
theorem dX8_read_177 : decode cX8_read 177 = .ok (.bipush 96, 2) := by decide +kernel
theorem dX8_read_179 : decode cX8_read 179 = .ok (.iconst 0, 1) := by decide +kernel
theorem dX8_read_180 : decode cX8_read 180 = .ok (.invokevirtual 300, 3) := by decide +kernel
theorem dX8_read_183 : decode cX8_read 183 = .ok (.bipush (-20), 2) := by decide +kernel
theorem dX8_read_185 : decode cX8_read 185 = .ok (.iload 6, 2) := by decide +kernel
theorem dX8_read_187 : decode cX8_read 187 = .ok (.isub, 1) := by decide +kernel
theorem dX8_read_188 : decode cX8_read 188 = .ok (.ireturn, 1) := by decide +kernel
theorem dX8_read_189 : decode cX8_read 189 = .ok (.iinc 6 1, 3) := by decide +kernel
theorem dX8_read_192 : decode cX8_read 192 = .ok (.iinc 7 1, 3) := by decide +kernel
theorem dX8_read_195 : decode cX8_read 195 = .ok (.goto (-140), 3) := by decide +kernel
theorem dX8_read_198 : decode cX8_read 198 = .ok (.aload_n 0, 1) := by decide +kernel
theorem dX8_read_199 : decode cX8_read 199 = .ok (.iload 5, 2) := by decide +kernel
theorem dX8_read_201 : decode cX8_read 201 = .ok (.putfield 306, 3) := by decide +kernel
theorem dX8_read_204 : decode cX8_read 204 = .ok (.iload 6, 2) := by decide +kernel
theorem dX8_read_206 : decode cX8_read 206 = .ok (.ireturn, 1) := by decide +kernel
theorem dX8_torn_0 : decode cX8_torn 0 = .ok (.aload_n 0, 1) := by decide +kernel
theorem dX8_torn_1 : decode cX8_torn 1 = .ok (.getfield 306, 3) := by decide +kernel
theorem dX8_torn_4 : decode cX8_torn 4 = .ok (.ireturn, 1) := by decide +kernel
theorem dX8_count_0 : decode cX8_count 0 = .ok (.iconst 0, 1) := by decide +kernel
theorem dX8_count_1 : decode cX8_count 1 = .ok (.istore_n 2, 1) := by decide +kernel
theorem dX8_count_2 : decode cX8_count 2 = .ok (.iconst 0, 1) := by decide +kernel
theorem dX8_count_3 : decode cX8_count 3 = .ok (.istore_n 3, 1) := by decide +kernel
theorem dX8_count_4 : decode cX8_count 4 = .ok (.iconst 0, 1) := by decide +kernel
theorem dX8_count_5 : decode cX8_count 5 = .ok (.istore 4, 2) := by decide +kernel
theorem dX8_count_7 : decode cX8_count 7 = .ok (.iload 4, 2) := by decide +kernel
theorem dX8_count_9 : decode cX8_count 9 = .ok (.aload_n 0, 1) := by decide +kernel
theorem dX8_count_10 : decode cX8_count 10 = .ok (.getfield 167, 3) := by decide +kernel
theorem dX8_count_13 : decode cX8_count 13 = .ok (.if_icmp .ge 22, 3) := by decide +kernel
theorem dX8_count_16 : decode cX8_count 16 = .ok (.iload_n 2, 1) := by decide +kernel
theorem dX8_count_17 : decode cX8_count 17 = .ok (.aload_n 0, 1) := by decide +kernel
theorem dX8_count_18 : decode cX8_count 18 = .ok (.getfield 7, 3) := by decide +kernel
theorem dX8_count_21 : decode cX8_count 21 = .ok (.bipush 10, 2) := by decide +kernel
theorem dX8_count_23 : decode cX8_count 23 = .ok (.iload 4, 2) := by decide +kernel
theorem dX8_count_25 : decode cX8_count 25 = .ok (.iadd, 1) := by decide +kernel
theorem dX8_count_26 : decode cX8_count 26 = .ok (.iaload, 1) := by decide +kernel
theorem dX8_count_27 : decode cX8_count 27 = .ok (.iadd, 1) := by decide +kernel
theorem dX8_count_28 : decode cX8_count 28 = .ok (.istore_n 2, 1) := by decide +kernel
theorem dX8_count_29 : decode cX8_count 29 = .ok (.iinc 4 1, 3) := by decide +kernel
theorem dX8_count_32 : decode cX8_count 32 = .ok (.goto (-25), 3) := by decide +kernel
theorem dX8_count_35 : decode cX8_count 35 = .ok (.iconst 0, 1) := by decide +kernel
theorem dX8_count_36 : decode cX8_count 36 = .ok (.istore 4, 2) := by decide +kernel
theorem dX8_count_38 : decode cX8_count 38 = .ok (.iload 4, 2) := by decide +kernel
theorem dX8_count_40 : decode cX8_count 40 = .ok (.aload_n 0, 1) := by decide +kernel
theorem dX8_count_41 : decode cX8_count 41 = .ok (.getfield 164, 3) := by decide +kernel
theorem dX8_count_44 : decode cX8_count 44 = .ok (.if_icmp .ge 19, 3) := by decide +kernel
theorem dX8_count_47 : decode cX8_count 47 = .ok (.iload_n 3, 1) := by decide +kernel
theorem dX8_count_48 : decode cX8_count 48 = .ok (.aload_n 0, 1) := by decide +kernel
theorem dX8_count_49 : decode cX8_count 49 = .ok (.getfield 13, 3) := by decide +kernel
theorem dX8_count_52 : decode cX8_count 52 = .ok (.iload 4, 2) := by decide +kernel
theorem dX8_count_54 : decode cX8_count 54 = .ok (.iaload, 1) := by decide +kernel
theorem dX8_count_55 : decode cX8_count 55 = .ok (.iadd, 1) := by decide +kernel
theorem dX8_count_56 : decode cX8_count 56 = .ok (.istore_n 3, 1) := by decide +kernel
theorem dX8_count_57 : decode cX8_count 57 = .ok (.iinc 4 1, 3) := by decide +kernel
theorem dX8_count_60 : decode cX8_count 60 = .ok (.goto (-22), 3) := by decide +kernel
theorem dX8_count_63 : decode cX8_count 63 = .ok (.iload_n 1, 1) := by decide +kernel
theorem dX8_count_64 : decode cX8_count 64 = .ok (.tableswitch 107 0 5 #[40, 45, 75, 80, 103, 105], 40) := by decide +kernel
theorem dX8_count_104 : decode cX8_count 104 = .ok (.aload_n 0, 1) := by decide +kernel
theorem dX8_count_105 : decode cX8_count 105 = .ok (.getfield 170, 3) := by decide +kernel
theorem dX8_count_108 : decode cX8_count 108 = .ok (.ireturn, 1) := by decide +kernel
theorem dX8_count_109 : decode cX8_count 109 = .ok (.aload_n 0, 1) := by decide +kernel
theorem dX8_count_110 : decode cX8_count 110 = .ok (.getfield 55, 3) := by decide +kernel
theorem dX8_count_113 : decode cX8_count 113 = .ok (.iconst 0, 1) := by decide +kernel
theorem dX8_count_114 : decode cX8_count 114 = .ok (.baload, 1) := by decide +kernel
theorem dX8_count_115 : decode cX8_count 115 = .ok (.ifCond .eq 7, 3) := by decide +kernel
theorem dX8_count_118 : decode cX8_count 118 = .ok (.iconst 1, 1) := by decide +kernel
theorem dX8_count_119 : decode cX8_count 119 = .ok (.goto 4, 3) := by decide +kernel
theorem dX8_count_122 : decode cX8_count 122 = .ok (.iconst 0, 1) := by decide +kernel
theorem dX8_count_123 : decode cX8_count 123 = .ok (.aload_n 0, 1) := by decide +kernel
theorem dX8_count_124 : decode cX8_count 124 = .ok (.getfield 55, 3) := by decide +kernel
theorem dX8_count_127 : decode cX8_count 127 = .ok (.iconst 1, 1) := by decide +kernel
theorem dX8_count_128 : decode cX8_count 128 = .ok (.baload, 1) := by decide +kernel
theorem dX8_count_129 : decode cX8_count 129 = .ok (.ifCond .eq 7, 3) := by decide +kernel
theorem dX8_count_132 : decode cX8_count 132 = .ok (.iconst 1, 1) := by decide +kernel
theorem dX8_count_133 : decode cX8_count 133 = .ok (.goto 4, 3) := by decide +kernel
theorem dX8_count_136 : decode cX8_count 136 = .ok (.iconst 0, 1) := by decide +kernel
theorem dX8_count_137 : decode cX8_count 137 = .ok (.iadd, 1) := by decide +kernel
theorem dX8_count_138 : decode cX8_count 138 = .ok (.ireturn, 1) := by decide +kernel
theorem dX8_count_139 : decode cX8_count 139 = .ok (.aload_n 0, 1) := by decide +kernel
theorem dX8_count_140 : decode cX8_count 140 = .ok (.getfield 74, 3) := by decide +kernel
theorem dX8_count_143 : decode cX8_count 143 = .ok (.ireturn, 1) := by decide +kernel
theorem dX8_count_144 : decode cX8_count 144 = .ok (.aload_n 0, 1) := by decide +kernel
theorem dX8_count_145 : decode cX8_count 145 = .ok (.getfield 59, 3) := by decide +kernel
theorem dX8_count_148 : decode cX8_count 148 = .ok (.iconst 0, 1) := by decide +kernel
theorem dX8_count_149 : decode cX8_count 149 = .ok (.iaload, 1) := by decide +kernel
theorem dX8_count_150 : decode cX8_count 150 = .ok (.bipush (-4), 2) := by decide +kernel
theorem dX8_count_152 : decode cX8_count 152 = .ok (.if_icmp .ne 8, 3) := by decide +kernel
theorem dX8_count_155 : decode cX8_count 155 = .ok (.bipush (-4), 2) := by decide +kernel
theorem dX8_count_157 : decode cX8_count 157 = .ok (.goto 9, 3) := by decide +kernel
theorem dX8_count_160 : decode cX8_count 160 = .ok (.aload_n 0, 1) := by decide +kernel
theorem dX8_count_161 : decode cX8_count 161 = .ok (.getfield 62, 3) := by decide +kernel
theorem dX8_count_164 : decode cX8_count 164 = .ok (.iconst 0, 1) := by decide +kernel
theorem dX8_count_165 : decode cX8_count 165 = .ok (.iaload, 1) := by decide +kernel
theorem dX8_count_166 : decode cX8_count 166 = .ok (.ireturn, 1) := by decide +kernel
theorem dX8_count_167 : decode cX8_count 167 = .ok (.iload_n 2, 1) := by decide +kernel
theorem dX8_count_168 : decode cX8_count 168 = .ok (.ireturn, 1) := by decide +kernel
theorem dX8_count_169 : decode cX8_count 169 = .ok (.iload_n 3, 1) := by decide +kernel
theorem dX8_count_170 : decode cX8_count 170 = .ok (.ireturn, 1) := by decide +kernel
theorem dX8_count_171 : decode cX8_count 171 = .ok (.iconst (-1), 1) := by decide +kernel
theorem dX8_count_172 : decode cX8_count 172 = .ok (.ireturn, 1) := by decide +kernel
theorem dJ6_bitCount_0f7a4_0 : decode cJ6_bitCount_0f7a4 0 = .ok (.iload_n 0, 1) := by decide +kernel
theorem dJ6_bitCount_0f7a4_1 : decode cJ6_bitCount_0f7a4 1 = .ok (.iload_n 0, 1) := by decide +kernel
theorem dJ6_bitCount_0f7a4_2 : decode cJ6_bitCount_0f7a4 2 = .ok (.iconst 1, 1) := by decide +kernel
theorem dJ6_bitCount_0f7a4_3 : decode cJ6_bitCount_0f7a4 3 = .ok (.iushr, 1) := by decide +kernel
theorem dJ6_bitCount_0f7a4_4 : decode cJ6_bitCount_0f7a4 4 = .ok (.ldc_w 265, 3) := by decide +kernel
theorem dJ6_bitCount_0f7a4_7 : decode cJ6_bitCount_0f7a4 7 = .ok (.iand, 1) := by decide +kernel
theorem dJ6_bitCount_0f7a4_8 : decode cJ6_bitCount_0f7a4 8 = .ok (.isub, 1) := by decide +kernel
theorem dJ6_bitCount_0f7a4_9 : decode cJ6_bitCount_0f7a4 9 = .ok (.istore_n 0, 1) := by decide +kernel
theorem dJ6_bitCount_0f7a4_10 : decode cJ6_bitCount_0f7a4 10 = .ok (.iload_n 0, 1) := by decide +kernel
theorem dJ6_bitCount_0f7a4_11 : decode cJ6_bitCount_0f7a4 11 = .ok (.ldc_w 266, 3) := by decide +kernel
theorem dJ6_bitCount_0f7a4_14 : decode cJ6_bitCount_0f7a4 14 = .ok (.iand, 1) := by decide +kernel
theorem dJ6_bitCount_0f7a4_15 : decode cJ6_bitCount_0f7a4 15 = .ok (.iload_n 0, 1) := by decide +kernel
theorem dJ6_bitCount_0f7a4_16 : decode cJ6_bitCount_0f7a4 16 = .ok (.iconst 2, 1) := by decide +kernel
theorem dJ6_bitCount_0f7a4_17 : decode cJ6_bitCount_0f7a4 17 = .ok (.iushr, 1) := by decide +kernel
theorem dJ6_bitCount_0f7a4_18 : decode cJ6_bitCount_0f7a4 18 = .ok (.ldc_w 266, 3) := by decide +kernel
theorem dJ6_bitCount_0f7a4_21 : decode cJ6_bitCount_0f7a4 21 = .ok (.iand, 1) := by decide +kernel
theorem dJ6_bitCount_0f7a4_22 : decode cJ6_bitCount_0f7a4 22 = .ok (.iadd, 1) := by decide +kernel
theorem dJ6_bitCount_0f7a4_23 : decode cJ6_bitCount_0f7a4 23 = .ok (.istore_n 0, 1) := by decide +kernel
theorem dJ6_bitCount_0f7a4_24 : decode cJ6_bitCount_0f7a4 24 = .ok (.iload_n 0, 1) := by decide +kernel
theorem dJ6_bitCount_0f7a4_25 : decode cJ6_bitCount_0f7a4 25 = .ok (.iload_n 0, 1) := by decide +kernel
theorem dJ6_bitCount_0f7a4_26 : decode cJ6_bitCount_0f7a4 26 = .ok (.iconst 4, 1) := by decide +kernel
theorem dJ6_bitCount_0f7a4_27 : decode cJ6_bitCount_0f7a4 27 = .ok (.iushr, 1) := by decide +kernel
theorem dJ6_bitCount_0f7a4_28 : decode cJ6_bitCount_0f7a4 28 = .ok (.iadd, 1) := by decide +kernel
theorem dJ6_bitCount_0f7a4_29 : decode cJ6_bitCount_0f7a4 29 = .ok (.ldc_w 267, 3) := by decide +kernel
theorem dJ6_bitCount_0f7a4_32 : decode cJ6_bitCount_0f7a4 32 = .ok (.iand, 1) := by decide +kernel
theorem dJ6_bitCount_0f7a4_33 : decode cJ6_bitCount_0f7a4 33 = .ok (.istore_n 0, 1) := by decide +kernel
theorem dJ6_bitCount_0f7a4_34 : decode cJ6_bitCount_0f7a4 34 = .ok (.iload_n 0, 1) := by decide +kernel
theorem dJ6_bitCount_0f7a4_35 : decode cJ6_bitCount_0f7a4 35 = .ok (.iload_n 0, 1) := by decide +kernel
theorem dJ6_bitCount_0f7a4_36 : decode cJ6_bitCount_0f7a4 36 = .ok (.bipush 8, 2) := by decide +kernel
theorem dJ6_bitCount_0f7a4_38 : decode cJ6_bitCount_0f7a4 38 = .ok (.iushr, 1) := by decide +kernel
theorem dJ6_bitCount_0f7a4_39 : decode cJ6_bitCount_0f7a4 39 = .ok (.iadd, 1) := by decide +kernel
theorem dJ6_bitCount_0f7a4_40 : decode cJ6_bitCount_0f7a4 40 = .ok (.istore_n 0, 1) := by decide +kernel
theorem dJ6_bitCount_0f7a4_41 : decode cJ6_bitCount_0f7a4 41 = .ok (.iload_n 0, 1) := by decide +kernel
theorem dJ6_bitCount_0f7a4_42 : decode cJ6_bitCount_0f7a4 42 = .ok (.iload_n 0, 1) := by decide +kernel
theorem dJ6_bitCount_0f7a4_43 : decode cJ6_bitCount_0f7a4 43 = .ok (.bipush 16, 2) := by decide +kernel
theorem dJ6_bitCount_0f7a4_45 : decode cJ6_bitCount_0f7a4 45 = .ok (.iushr, 1) := by decide +kernel
theorem dJ6_bitCount_0f7a4_46 : decode cJ6_bitCount_0f7a4 46 = .ok (.iadd, 1) := by decide +kernel
theorem dJ6_bitCount_0f7a4_47 : decode cJ6_bitCount_0f7a4 47 = .ok (.istore_n 0, 1) := by decide +kernel
theorem dJ6_bitCount_0f7a4_48 : decode cJ6_bitCount_0f7a4 48 = .ok (.iload_n 0, 1) := by decide +kernel
theorem dJ6_bitCount_0f7a4_49 : decode cJ6_bitCount_0f7a4 49 = .ok (.bipush 63, 2) := by decide +kernel
theorem dJ6_bitCount_0f7a4_51 : decode cJ6_bitCount_0f7a4 51 = .ok (.iand, 1) := by decide +kernel
theorem dJ6_bitCount_0f7a4_52 : decode cJ6_bitCount_0f7a4 52 = .ok (.ireturn, 1) := by decide +kernel
theorem dJ9_max_7cf53_0 : decode cJ9_max_7cf53 0 = .ok (.iload_n 0, 1) := by decide +kernel
theorem dJ9_max_7cf53_1 : decode cJ9_max_7cf53 1 = .ok (.iload_n 1, 1) := by decide +kernel
theorem dJ9_max_7cf53_2 : decode cJ9_max_7cf53 2 = .ok (.if_icmp .lt 7, 3) := by decide +kernel
theorem dJ9_max_7cf53_5 : decode cJ9_max_7cf53 5 = .ok (.iload_n 0, 1) := by decide +kernel
theorem dJ9_max_7cf53_6 : decode cJ9_max_7cf53 6 = .ok (.goto 4, 3) := by decide +kernel
theorem dJ9_max_7cf53_9 : decode cJ9_max_7cf53 9 = .ok (.iload_n 1, 1) := by decide +kernel
theorem dJ9_max_7cf53_10 : decode cJ9_max_7cf53 10 = .ok (.ireturn, 1) := by decide +kernel
theorem dJ9_min_7cf53_0 : decode cJ9_min_7cf53 0 = .ok (.iload_n 0, 1) := by decide +kernel
theorem dJ9_min_7cf53_1 : decode cJ9_min_7cf53 1 = .ok (.iload_n 1, 1) := by decide +kernel
theorem dJ9_min_7cf53_2 : decode cJ9_min_7cf53 2 = .ok (.if_icmp .gt 7, 3) := by decide +kernel
theorem dJ9_min_7cf53_5 : decode cJ9_min_7cf53 5 = .ok (.iload_n 0, 1) := by decide +kernel
theorem dJ9_min_7cf53_6 : decode cJ9_min_7cf53 6 = .ok (.goto 4, 3) := by decide +kernel
theorem dJ9_min_7cf53_9 : decode cJ9_min_7cf53 9 = .ok (.iload_n 1, 1) := by decide +kernel
theorem dJ9_min_7cf53_10 : decode cJ9_min_7cf53 10 = .ok (.ireturn, 1) := by decide +kernel
theorem dJ0_length_8abf5_0 : decode cJ0_length_8abf5 0 = .ok (.aload_n 0, 1) := by decide +kernel
theorem dJ0_length_8abf5_1 : decode cJ0_length_8abf5 1 = .ok (.getfield 9, 3) := by decide +kernel
theorem dJ0_length_8abf5_4 : decode cJ0_length_8abf5 4 = .ok (.arraylength, 1) := by decide +kernel
theorem dJ0_length_8abf5_5 : decode cJ0_length_8abf5 5 = .ok (.aload_n 0, 1) := by decide +kernel
theorem dJ0_length_8abf5_6 : decode cJ0_length_8abf5 6 = .ok (.invokevirtual 335, 3) := by decide +kernel
theorem dJ0_length_8abf5_9 : decode cJ0_length_8abf5 9 = .ok (.ishr, 1) := by decide +kernel
theorem dJ0_length_8abf5_10 : decode cJ0_length_8abf5 10 = .ok (.ireturn, 1) := by decide +kernel
theorem dJ0_charAt_5068e_0 : decode cJ0_charAt_5068e 0 = .ok (.aload_n 0, 1) := by decide +kernel
theorem dJ0_charAt_5068e_1 : decode cJ0_charAt_5068e 1 = .ok (.invokevirtual 492, 3) := by decide +kernel
theorem dJ0_charAt_5068e_4 : decode cJ0_charAt_5068e 4 = .ok (.ifCond .eq 12, 3) := by decide +kernel
theorem dJ0_charAt_5068e_7 : decode cJ0_charAt_5068e 7 = .ok (.aload_n 0, 1) := by decide +kernel
theorem dJ0_charAt_5068e_8 : decode cJ0_charAt_5068e 8 = .ok (.getfield 9, 3) := by decide +kernel
theorem dJ0_charAt_5068e_11 : decode cJ0_charAt_5068e 11 = .ok (.iload_n 1, 1) := by decide +kernel
theorem dJ0_charAt_5068e_12 : decode cJ0_charAt_5068e 12 = .ok (.invokestatic 495, 3) := by decide +kernel
theorem dJ0_charAt_5068e_15 : decode cJ0_charAt_5068e 15 = .ok (.ireturn, 1) := by decide +kernel
theorem dJ0_charAt_5068e_16 : decode cJ0_charAt_5068e 16 = .ok (.aload_n 0, 1) := by decide +kernel
theorem dJ0_charAt_5068e_17 : decode cJ0_charAt_5068e 17 = .ok (.getfield 9, 3) := by decide +kernel
theorem dJ0_charAt_5068e_20 : decode cJ0_charAt_5068e 20 = .ok (.iload_n 1, 1) := by decide +kernel
theorem dJ0_charAt_5068e_21 : decode cJ0_charAt_5068e 21 = .ok (.invokestatic 498, 3) := by decide +kernel
theorem dJ0_charAt_5068e_24 : decode cJ0_charAt_5068e 24 = .ok (.ireturn, 1) := by decide +kernel
theorem dJ0_coder_7d493_0 : decode cJ0_coder_7d493 0 = .ok (.getstatic 38, 3) := by decide +kernel
theorem dJ0_coder_7d493_3 : decode cJ0_coder_7d493 3 = .ok (.ifCond .eq 10, 3) := by decide +kernel
theorem dJ0_coder_7d493_6 : decode cJ0_coder_7d493 6 = .ok (.aload_n 0, 1) := by decide +kernel
theorem dJ0_coder_7d493_7 : decode cJ0_coder_7d493 7 = .ok (.getfield 15, 3) := by decide +kernel
theorem dJ0_coder_7d493_10 : decode cJ0_coder_7d493 10 = .ok (.goto 4, 3) := by decide +kernel
theorem dJ0_coder_7d493_13 : decode cJ0_coder_7d493 13 = .ok (.iconst 1, 1) := by decide +kernel
theorem dJ0_coder_7d493_14 : decode cJ0_coder_7d493 14 = .ok (.ireturn, 1) := by decide +kernel
theorem dJ0_isLatin1_aae02_0 : decode cJ0_isLatin1_aae02 0 = .ok (.getstatic 38, 3) := by decide +kernel
theorem dJ0_isLatin1_aae02_3 : decode cJ0_isLatin1_aae02 3 = .ok (.ifCond .eq 14, 3) := by decide +kernel
theorem dJ0_isLatin1_aae02_6 : decode cJ0_isLatin1_aae02 6 = .ok (.aload_n 0, 1) := by decide +kernel
theorem dJ0_isLatin1_aae02_7 : decode cJ0_isLatin1_aae02 7 = .ok (.getfield 15, 3) := by decide +kernel
theorem dJ0_isLatin1_aae02_10 : decode cJ0_isLatin1_aae02 10 = .ok (.ifCond .ne 7, 3) := by decide +kernel
theorem dJ0_isLatin1_aae02_13 : decode cJ0_isLatin1_aae02 13 = .ok (.iconst 1, 1) := by decide +kernel
theorem dJ0_isLatin1_aae02_14 : decode cJ0_isLatin1_aae02 14 = .ok (.goto 4, 3) := by decide +kernel
theorem dJ0_isLatin1_aae02_17 : decode cJ0_isLatin1_aae02 17 = .ok (.iconst 0, 1) := by decide +kernel
theorem dJ0_isLatin1_aae02_18 : decode cJ0_isLatin1_aae02 18 = .ok (.ireturn, 1) := by decide +kernel
theorem dJ0_checkIndex_df160_0 : decode cJ0_checkIndex_df160 0 = .ok (.iload_n 0, 1) := by decide +kernel
theorem dJ0_checkIndex_df160_1 : decode cJ0_checkIndex_df160 1 = .ok (.iload_n 1, 1) := by decide +kernel
theorem dJ0_checkIndex_df160_2 : decode cJ0_checkIndex_df160 2 = .ok (.getstatic 1053, 3) := by decide +kernel
theorem dJ0_checkIndex_df160_5 : decode cJ0_checkIndex_df160 5 = .ok (.invokestatic 1059, 3) := by decide +kernel
theorem dJ0_checkIndex_df160_8 : decode cJ0_checkIndex_df160 8 = .ok (.pop, 1) := by decide +kernel
theorem dJ0_checkIndex_df160_9 : decode cJ0_checkIndex_df160 9 = .ok (.return_, 1) := by decide +kernel
theorem dJ1_charAt_3b067_0 : decode cJ1_charAt_3b067 0 = .ok (.iload_n 1, 1) := by decide +kernel
theorem dJ1_charAt_3b067_1 : decode cJ1_charAt_3b067 1 = .ok (.aload_n 0, 1) := by decide +kernel
theorem dJ1_charAt_3b067_2 : decode cJ1_charAt_3b067 2 = .ok (.arraylength, 1) := by decide +kernel
theorem dJ1_charAt_3b067_3 : decode cJ1_charAt_3b067 3 = .ok (.invokestatic 9, 3) := by decide +kernel
theorem dJ1_charAt_3b067_6 : decode cJ1_charAt_3b067 6 = .ok (.aload_n 0, 1) := by decide +kernel
theorem dJ1_charAt_3b067_7 : decode cJ1_charAt_3b067 7 = .ok (.iload_n 1, 1) := by decide +kernel
theorem dJ1_charAt_3b067_8 : decode cJ1_charAt_3b067 8 = .ok (.baload, 1) := by decide +kernel
theorem dJ1_charAt_3b067_9 : decode cJ1_charAt_3b067 9 = .ok (.sipush 255, 3) := by decide +kernel
theorem dJ1_charAt_3b067_12 : decode cJ1_charAt_3b067 12 = .ok (.iand, 1) := by decide +kernel
theorem dJ1_charAt_3b067_13 : decode cJ1_charAt_3b067 13 = .ok (.i2c, 1) := by decide +kernel
theorem dJ1_charAt_3b067_14 : decode cJ1_charAt_3b067 14 = .ok (.ireturn, 1) := by decide +kernel
theorem dJ2_getChar_3b067_0 : decode cJ2_getChar_3b067 0 = .ok (.getstatic 44, 3) := by decide +kernel
theorem dJ2_getChar_3b067_3 : decode cJ2_getChar_3b067 3 = .ok (.ifCond .ne 25, 3) := by decide +kernel
theorem dJ2_getChar_3b067_6 : decode cJ2_getChar_3b067 6 = .ok (.iload_n 1, 1) := by decide +kernel
theorem dJ2_getChar_3b067_7 : decode cJ2_getChar_3b067 7 = .ok (.ifCond .lt 11, 3) := by decide +kernel
theorem dJ2_getChar_3b067_10 : decode cJ2_getChar_3b067 10 = .ok (.iload_n 1, 1) := by decide +kernel
theorem dJ2_getChar_3b067_11 : decode cJ2_getChar_3b067 11 = .ok (.aload_n 0, 1) := by decide +kernel
theorem dJ2_getChar_3b067_12 : decode cJ2_getChar_3b067 12 = .ok (.invokestatic 48, 3) := by decide +kernel
theorem dJ2_getChar_3b067_15 : decode cJ2_getChar_3b067 15 = .ok (.if_icmp .lt 13, 3) := by decide +kernel
theorem dJ2_getChar_3b067_18 : decode cJ2_getChar_3b067 18 = .ok (.new 52, 3) := by decide +kernel
theorem dJ2_getChar_3b067_21 : decode cJ2_getChar_3b067 21 = .ok (.dup, 1) := by decide +kernel
theorem dJ2_getChar_3b067_22 : decode cJ2_getChar_3b067 22 = .ok (.ldc 54, 2) := by decide +kernel
theorem dJ2_getChar_3b067_24 : decode cJ2_getChar_3b067 24 = .ok (.invokespecial 56, 3) := by decide +kernel
theorem dJ2_getChar_3b067_27 : decode cJ2_getChar_3b067 27 = .ok (.athrow, 1) := by decide +kernel
theorem dJ2_getChar_3b067_28 : decode cJ2_getChar_3b067 28 = .ok (.iload_n 1, 1) := by decide +kernel
theorem dJ2_getChar_3b067_29 : decode cJ2_getChar_3b067 29 = .ok (.iconst 1, 1) := by decide +kernel
theorem dJ2_getChar_3b067_30 : decode cJ2_getChar_3b067 30 = .ok (.ishl, 1) := by decide +kernel
theorem dJ2_getChar_3b067_31 : decode cJ2_getChar_3b067 31 = .ok (.istore_n 1, 1) := by decide +kernel
theorem dJ2_getChar_3b067_32 : decode cJ2_getChar_3b067 32 = .ok (.aload_n 0, 1) := by decide +kernel
theorem dJ2_getChar_3b067_33 : decode cJ2_getChar_3b067 33 = .ok (.iload_n 1, 1) := by decide +kernel
theorem dJ2_getChar_3b067_34 : decode cJ2_getChar_3b067 34 = .ok (.iinc 1 1, 3) := by decide +kernel
theorem dJ2_getChar_3b067_37 : decode cJ2_getChar_3b067 37 = .ok (.baload, 1) := by decide +kernel
theorem dJ2_getChar_3b067_38 : decode cJ2_getChar_3b067 38 = .ok (.sipush 255, 3) := by decide +kernel
theorem dJ2_getChar_3b067_41 : decode cJ2_getChar_3b067 41 = .ok (.iand, 1) := by decide +kernel
theorem dJ2_getChar_3b067_42 : decode cJ2_getChar_3b067 42 = .ok (.getstatic 59, 3) := by decide +kernel
theorem dJ2_getChar_3b067_45 : decode cJ2_getChar_3b067 45 = .ok (.ishl, 1) := by decide +kernel
theorem dJ2_getChar_3b067_46 : decode cJ2_getChar_3b067 46 = .ok (.aload_n 0, 1) := by decide +kernel
theorem dJ2_getChar_3b067_47 : decode cJ2_getChar_3b067 47 = .ok (.iload_n 1, 1) := by decide +kernel
theorem dJ2_getChar_3b067_48 : decode cJ2_getChar_3b067 48 = .ok (.baload, 1) := by decide +kernel
theorem dJ2_getChar_3b067_49 : decode cJ2_getChar_3b067 49 = .ok (.sipush 255, 3) := by decide +kernel
theorem dJ2_getChar_3b067_52 : decode cJ2_getChar_3b067 52 = .ok (.iand, 1) := by decide +kernel
theorem dJ2_getChar_3b067_53 : decode cJ2_getChar_3b067 53 = .ok (.getstatic 63, 3) := by decide +kernel
theorem dJ2_getChar_3b067_56 : decode cJ2_getChar_3b067 56 = .ok (.ishl, 1) := by decide +kernel
theorem dJ2_getChar_3b067_57 : decode cJ2_getChar_3b067 57 = .ok (.ior, 1) := by decide +kernel
theorem dJ2_getChar_3b067_58 : decode cJ2_getChar_3b067 58 = .ok (.i2c, 1) := by decide +kernel
theorem dJ2_getChar_3b067_59 : decode cJ2_getChar_3b067 59 = .ok (.ireturn, 1) := by decide +kernel
theorem dJ2_length_9d52b_0 : decode cJ2_length_9d52b 0 = .ok (.aload_n 0, 1) := by decide +kernel
theorem dJ2_length_9d52b_1 : decode cJ2_length_9d52b 1 = .ok (.arraylength, 1) := by decide +kernel
theorem dJ2_length_9d52b_2 : decode cJ2_length_9d52b 2 = .ok (.iconst 1, 1) := by decide +kernel
theorem dJ2_length_9d52b_3 : decode cJ2_length_9d52b 3 = .ok (.ishr, 1) := by decide +kernel
theorem dJ2_length_9d52b_4 : decode cJ2_length_9d52b 4 = .ok (.ireturn, 1) := by decide +kernel
theorem dJ2_charAt_3b067_0 : decode cJ2_charAt_3b067 0 = .ok (.iload_n 1, 1) := by decide +kernel
theorem dJ2_charAt_3b067_1 : decode cJ2_charAt_3b067 1 = .ok (.aload_n 0, 1) := by decide +kernel
theorem dJ2_charAt_3b067_2 : decode cJ2_charAt_3b067 2 = .ok (.invokestatic 67, 3) := by decide +kernel
theorem dJ2_charAt_3b067_5 : decode cJ2_charAt_3b067 5 = .ok (.aload_n 0, 1) := by decide +kernel
theorem dJ2_charAt_3b067_6 : decode cJ2_charAt_3b067 6 = .ok (.iload_n 1, 1) := by decide +kernel
theorem dJ2_charAt_3b067_7 : decode cJ2_charAt_3b067 7 = .ok (.invokestatic 71, 3) := by decide +kernel
theorem dJ2_charAt_3b067_10 : decode cJ2_charAt_3b067 10 = .ok (.ireturn, 1) := by decide +kernel
theorem dJ2_checkIndex_2214a_0 : decode cJ2_checkIndex_2214a 0 = .ok (.iload_n 0, 1) := by decide +kernel
theorem dJ2_checkIndex_2214a_1 : decode cJ2_checkIndex_2214a 1 = .ok (.aload_n 1, 1) := by decide +kernel
theorem dJ2_checkIndex_2214a_2 : decode cJ2_checkIndex_2214a 2 = .ok (.invokestatic 48, 3) := by decide +kernel
theorem dJ2_checkIndex_2214a_5 : decode cJ2_checkIndex_2214a 5 = .ok (.invokestatic 414, 3) := by decide +kernel
theorem dJ2_checkIndex_2214a_8 : decode cJ2_checkIndex_2214a 8 = .ok (.return_, 1) := by decide +kernel
theorem dJ7_fill_53178_0 : decode cJ7_fill_53178 0 = .ok (.iconst 0, 1) := by decide +kernel
theorem dJ7_fill_53178_1 : decode cJ7_fill_53178 1 = .ok (.istore_n 2, 1) := by decide +kernel
theorem dJ7_fill_53178_2 : decode cJ7_fill_53178 2 = .ok (.aload_n 0, 1) := by decide +kernel
theorem dJ7_fill_53178_3 : decode cJ7_fill_53178 3 = .ok (.arraylength, 1) := by decide +kernel
theorem dJ7_fill_53178_4 : decode cJ7_fill_53178 4 = .ok (.istore_n 3, 1) := by decide +kernel
theorem dJ7_fill_53178_5 : decode cJ7_fill_53178 5 = .ok (.iload_n 2, 1) := by decide +kernel
theorem dJ7_fill_53178_6 : decode cJ7_fill_53178 6 = .ok (.iload_n 3, 1) := by decide +kernel
theorem dJ7_fill_53178_7 : decode cJ7_fill_53178 7 = .ok (.if_icmp .ge 13, 3) := by decide +kernel
theorem dJ7_fill_53178_10 : decode cJ7_fill_53178 10 = .ok (.aload_n 0, 1) := by decide +kernel
theorem dJ7_fill_53178_11 : decode cJ7_fill_53178 11 = .ok (.iload_n 2, 1) := by decide +kernel
theorem dJ7_fill_53178_12 : decode cJ7_fill_53178 12 = .ok (.iload_n 1, 1) := by decide +kernel
theorem dJ7_fill_53178_13 : decode cJ7_fill_53178 13 = .ok (.iastore, 1) := by decide +kernel
theorem dJ7_fill_53178_14 : decode cJ7_fill_53178 14 = .ok (.iinc 2 1, 3) := by decide +kernel
theorem dJ7_fill_53178_17 : decode cJ7_fill_53178 17 = .ok (.goto (-12), 3) := by decide +kernel
theorem dJ7_fill_53178_20 : decode cJ7_fill_53178 20 = .ok (.return_, 1) := by decide +kernel
theorem dJ3_checkIndex_8e157_0 : decode cJ3_checkIndex_8e157 0 = .ok (.iload_n 0, 1) := by decide +kernel
theorem dJ3_checkIndex_8e157_1 : decode cJ3_checkIndex_8e157 1 = .ok (.ifCond .lt 8, 3) := by decide +kernel
theorem dJ3_checkIndex_8e157_4 : decode cJ3_checkIndex_8e157 4 = .ok (.iload_n 0, 1) := by decide +kernel
theorem dJ3_checkIndex_8e157_5 : decode cJ3_checkIndex_8e157 5 = .ok (.iload_n 1, 1) := by decide +kernel
theorem dJ3_checkIndex_8e157_6 : decode cJ3_checkIndex_8e157 6 = .ok (.if_icmp .lt 10, 3) := by decide +kernel
theorem dJ3_checkIndex_8e157_9 : decode cJ3_checkIndex_8e157 9 = .ok (.aload_n 2, 1) := by decide +kernel
theorem dJ3_checkIndex_8e157_10 : decode cJ3_checkIndex_8e157 10 = .ok (.iload_n 0, 1) := by decide +kernel
theorem dJ3_checkIndex_8e157_11 : decode cJ3_checkIndex_8e157 11 = .ok (.iload_n 1, 1) := by decide +kernel
theorem dJ3_checkIndex_8e157_12 : decode cJ3_checkIndex_8e157 12 = .ok (.invokestatic 95, 3) := by decide +kernel
theorem dJ3_checkIndex_8e157_15 : decode cJ3_checkIndex_8e157 15 = .ok (.athrow, 1) := by decide +kernel
theorem dJ3_checkIndex_8e157_16 : decode cJ3_checkIndex_8e157 16 = .ok (.iload_n 0, 1) := by decide +kernel
theorem dJ3_checkIndex_8e157_17 : decode cJ3_checkIndex_8e157 17 = .ok (.ireturn, 1) := by decide +kernel
theorem dL_law_0 : decode cL_law 0 = .ok (.new 7, 3) := by decide +kernel
theorem dL_law_3 : decode cL_law 3 = .ok (.dup, 1) := by decide +kernel
theorem dL_law_4 : decode cL_law 4 = .ok (.invokespecial 9, 3) := by decide +kernel
theorem dL_law_7 : decode cL_law 7 = .ok (.astore_n 1, 1) := by decide +kernel
theorem dL_law_8 : decode cL_law 8 = .ok (.new 10, 3) := by decide +kernel
theorem dL_law_11 : decode cL_law 11 = .ok (.dup, 1) := by decide +kernel
theorem dL_law_12 : decode cL_law 12 = .ok (.invokespecial 12, 3) := by decide +kernel
theorem dL_law_15 : decode cL_law 15 = .ok (.astore_n 2, 1) := by decide +kernel
theorem dL_law_16 : decode cL_law 16 = .ok (.iconst 0, 1) := by decide +kernel
theorem dL_law_17 : decode cL_law 17 = .ok (.istore_n 3, 1) := by decide +kernel
theorem dL_law_18 : decode cL_law 18 = .ok (.iload_n 3, 1) := by decide +kernel
theorem dL_law_19 : decode cL_law 19 = .ok (.aload_n 0, 1) := by decide +kernel
theorem dL_law_20 : decode cL_law 20 = .ok (.arraylength, 1) := by decide +kernel
theorem dL_law_21 : decode cL_law 21 = .ok (.iconst 5, 1) := by decide +kernel
theorem dL_law_22 : decode cL_law 22 = .ok (.isub, 1) := by decide +kernel
theorem dL_law_23 : decode cL_law 23 = .ok (.if_icmp .gt 1354, 3) := by decide +kernel
theorem dL_law_26 : decode cL_law 26 = .ok (.aload_n 0, 1) := by decide +kernel
theorem dL_law_27 : decode cL_law 27 = .ok (.iload_n 3, 1) := by decide +kernel
theorem dL_law_28 : decode cL_law 28 = .ok (.iaload, 1) := by decide +kernel
theorem dL_law_29 : decode cL_law 29 = .ok (.bipush 63, 2) := by decide +kernel
theorem dL_law_31 : decode cL_law 31 = .ok (.iand, 1) := by decide +kernel
theorem dL_law_32 : decode cL_law 32 = .ok (.tableswitch 1339 0 42 #[188, 211, 234, 247, 260, 283, 316, 349, 382, 415, 448, 471, 494, 537, 570, 603, 646, 669, 682, 695, 708, 721, 744, 767, 790, 813, 846, 869, 882, 895, 918, 952, 996, 1029, 1052, 1075, 1118, 1141, 1164, 1207, 1250, 1303, 1316], 188) := by decide +kernel
theorem dL_law_220 : decode cL_law 220 = .ok (.aload_n 1, 1) := by decide +kernel
theorem dL_law_221 : decode cL_law 221 = .ok (.aload_n 0, 1) := by decide +kernel
theorem dL_law_222 : decode cL_law 222 = .ok (.iload_n 3, 1) := by decide +kernel
theorem dL_law_223 : decode cL_law 223 = .ok (.iconst 1, 1) := by decide +kernel
theorem dL_law_224 : decode cL_law 224 = .ok (.iadd, 1) := by decide +kernel
theorem dL_law_225 : decode cL_law 225 = .ok (.iaload, 1) := by decide +kernel
theorem dL_law_226 : decode cL_law 226 = .ok (.invokevirtual 13, 3) := by decide +kernel
theorem dL_law_229 : decode cL_law 229 = .ok (.aload_n 2, 1) := by decide +kernel
theorem dL_law_230 : decode cL_law 230 = .ok (.aload_n 0, 1) := by decide +kernel
theorem dL_law_231 : decode cL_law 231 = .ok (.iload_n 3, 1) := by decide +kernel
theorem dL_law_232 : decode cL_law 232 = .ok (.iconst 1, 1) := by decide +kernel
theorem dL_law_233 : decode cL_law 233 = .ok (.iadd, 1) := by decide +kernel
theorem dL_law_234 : decode cL_law 234 = .ok (.iaload, 1) := by decide +kernel
theorem dL_law_235 : decode cL_law 235 = .ok (.invokevirtual 17, 3) := by decide +kernel
theorem dL_law_238 : decode cL_law 238 = .ok (.if_icmp .eq 1133, 3) := by decide +kernel
theorem dL_law_241 : decode cL_law 241 = .ok (.iconst 0, 1) := by decide +kernel
theorem dL_law_242 : decode cL_law 242 = .ok (.ireturn, 1) := by decide +kernel
theorem dL_law_243 : decode cL_law 243 = .ok (.aload_n 1, 1) := by decide +kernel
theorem dL_law_244 : decode cL_law 244 = .ok (.aload_n 0, 1) := by decide +kernel
theorem dL_law_245 : decode cL_law 245 = .ok (.iload_n 3, 1) := by decide +kernel
theorem dL_law_246 : decode cL_law 246 = .ok (.iconst 1, 1) := by decide +kernel
theorem dL_law_247 : decode cL_law 247 = .ok (.iadd, 1) := by decide +kernel
theorem dL_law_248 : decode cL_law 248 = .ok (.iaload, 1) := by decide +kernel
theorem dL_law_249 : decode cL_law 249 = .ok (.invokevirtual 18, 3) := by decide +kernel
theorem dL_law_252 : decode cL_law 252 = .ok (.aload_n 2, 1) := by decide +kernel
theorem dL_law_253 : decode cL_law 253 = .ok (.aload_n 0, 1) := by decide +kernel
theorem dL_law_254 : decode cL_law 254 = .ok (.iload_n 3, 1) := by decide +kernel
theorem dL_law_255 : decode cL_law 255 = .ok (.iconst 1, 1) := by decide +kernel
theorem dL_law_256 : decode cL_law 256 = .ok (.iadd, 1) := by decide +kernel
theorem dL_law_257 : decode cL_law 257 = .ok (.iaload, 1) := by decide +kernel
theorem dL_law_258 : decode cL_law 258 = .ok (.invokevirtual 21, 3) := by decide +kernel
theorem dL_law_261 : decode cL_law 261 = .ok (.if_icmp .eq 1110, 3) := by decide +kernel
theorem dL_law_264 : decode cL_law 264 = .ok (.iconst 0, 1) := by decide +kernel
theorem dL_law_265 : decode cL_law 265 = .ok (.ireturn, 1) := by decide +kernel
theorem dL_law_266 : decode cL_law 266 = .ok (.aload_n 1, 1) := by decide +kernel
theorem dL_law_267 : decode cL_law 267 = .ok (.invokevirtual 22, 3) := by decide +kernel
theorem dL_law_270 : decode cL_law 270 = .ok (.aload_n 2, 1) := by decide +kernel
theorem dL_law_271 : decode cL_law 271 = .ok (.invokevirtual 26, 3) := by decide +kernel
theorem dL_law_274 : decode cL_law 274 = .ok (.if_icmp .eq 1097, 3) := by decide +kernel
theorem dL_law_277 : decode cL_law 277 = .ok (.iconst 0, 1) := by decide +kernel
theorem dL_law_278 : decode cL_law 278 = .ok (.ireturn, 1) := by decide +kernel
theorem dL_law_279 : decode cL_law 279 = .ok (.aload_n 1, 1) := by decide +kernel
theorem dL_law_280 : decode cL_law 280 = .ok (.invokevirtual 27, 3) := by decide +kernel
theorem dL_law_283 : decode cL_law 283 = .ok (.aload_n 2, 1) := by decide +kernel
theorem dL_law_284 : decode cL_law 284 = .ok (.invokevirtual 30, 3) := by decide +kernel
theorem dL_law_287 : decode cL_law 287 = .ok (.if_icmp .eq 1084, 3) := by decide +kernel
theorem dL_law_290 : decode cL_law 290 = .ok (.iconst 0, 1) := by decide +kernel
theorem dL_law_291 : decode cL_law 291 = .ok (.ireturn, 1) := by decide +kernel
theorem dL_law_292 : decode cL_law 292 = .ok (.aload_n 1, 1) := by decide +kernel
theorem dL_law_293 : decode cL_law 293 = .ok (.aload_n 0, 1) := by decide +kernel
theorem dL_law_294 : decode cL_law 294 = .ok (.iload_n 3, 1) := by decide +kernel
theorem dL_law_295 : decode cL_law 295 = .ok (.iconst 1, 1) := by decide +kernel
theorem dL_law_296 : decode cL_law 296 = .ok (.iadd, 1) := by decide +kernel
theorem dL_law_297 : decode cL_law 297 = .ok (.iaload, 1) := by decide +kernel
theorem dL_law_298 : decode cL_law 298 = .ok (.invokevirtual 31, 3) := by decide +kernel
theorem dL_law_301 : decode cL_law 301 = .ok (.aload_n 2, 1) := by decide +kernel
theorem dL_law_302 : decode cL_law 302 = .ok (.aload_n 0, 1) := by decide +kernel
theorem dL_law_303 : decode cL_law 303 = .ok (.iload_n 3, 1) := by decide +kernel
theorem dL_law_304 : decode cL_law 304 = .ok (.iconst 1, 1) := by decide +kernel
theorem dL_law_305 : decode cL_law 305 = .ok (.iadd, 1) := by decide +kernel
theorem dL_law_306 : decode cL_law 306 = .ok (.iaload, 1) := by decide +kernel
theorem dL_law_307 : decode cL_law 307 = .ok (.invokevirtual 34, 3) := by decide +kernel
theorem dL_law_310 : decode cL_law 310 = .ok (.if_icmp .eq 1061, 3) := by decide +kernel
theorem dL_law_313 : decode cL_law 313 = .ok (.iconst 0, 1) := by decide +kernel
theorem dL_law_314 : decode cL_law 314 = .ok (.ireturn, 1) := by decide +kernel
theorem dL_law_315 : decode cL_law 315 = .ok (.aload_n 1, 1) := by decide +kernel
theorem dL_law_316 : decode cL_law 316 = .ok (.aload_n 0, 1) := by decide +kernel
theorem dL_law_317 : decode cL_law 317 = .ok (.iload_n 3, 1) := by decide +kernel
theorem dL_law_318 : decode cL_law 318 = .ok (.iconst 1, 1) := by decide +kernel
theorem dL_law_319 : decode cL_law 319 = .ok (.iadd, 1) := by decide +kernel
theorem dL_law_320 : decode cL_law 320 = .ok (.iaload, 1) := by decide +kernel
theorem dL_law_321 : decode cL_law 321 = .ok (.aload_n 0, 1) := by decide +kernel
theorem dL_law_322 : decode cL_law 322 = .ok (.iload_n 3, 1) := by decide +kernel
theorem dL_law_323 : decode cL_law 323 = .ok (.iconst 2, 1) := by decide +kernel
theorem dL_law_324 : decode cL_law 324 = .ok (.iadd, 1) := by decide +kernel
theorem dL_law_325 : decode cL_law 325 = .ok (.iaload, 1) := by decide +kernel
theorem dL_law_326 : decode cL_law 326 = .ok (.invokevirtual 35, 3) := by decide +kernel
theorem dL_law_329 : decode cL_law 329 = .ok (.aload_n 2, 1) := by decide +kernel
theorem dL_law_330 : decode cL_law 330 = .ok (.aload_n 0, 1) := by decide +kernel
theorem dL_law_331 : decode cL_law 331 = .ok (.iload_n 3, 1) := by decide +kernel
theorem dL_law_332 : decode cL_law 332 = .ok (.iconst 1, 1) := by decide +kernel
theorem dL_law_333 : decode cL_law 333 = .ok (.iadd, 1) := by decide +kernel
theorem dL_law_334 : decode cL_law 334 = .ok (.iaload, 1) := by decide +kernel
theorem dL_law_335 : decode cL_law 335 = .ok (.aload_n 0, 1) := by decide +kernel
theorem dL_law_336 : decode cL_law 336 = .ok (.iload_n 3, 1) := by decide +kernel
theorem dL_law_337 : decode cL_law 337 = .ok (.iconst 2, 1) := by decide +kernel
theorem dL_law_338 : decode cL_law 338 = .ok (.iadd, 1) := by decide +kernel
theorem dL_law_339 : decode cL_law 339 = .ok (.iaload, 1) := by decide +kernel
theorem dL_law_340 : decode cL_law 340 = .ok (.invokevirtual 39, 3) := by decide +kernel
theorem dL_law_343 : decode cL_law 343 = .ok (.if_icmp .eq 1028, 3) := by decide +kernel
theorem dL_law_346 : decode cL_law 346 = .ok (.iconst 0, 1) := by decide +kernel
theorem dL_law_347 : decode cL_law 347 = .ok (.ireturn, 1) := by decide +kernel
theorem dL_law_348 : decode cL_law 348 = .ok (.aload_n 1, 1) := by decide +kernel
theorem dL_law_349 : decode cL_law 349 = .ok (.aload_n 0, 1) := by decide +kernel
theorem dL_law_350 : decode cL_law 350 = .ok (.iload_n 3, 1) := by decide +kernel
theorem dL_law_351 : decode cL_law 351 = .ok (.iconst 1, 1) := by decide +kernel
theorem dL_law_352 : decode cL_law 352 = .ok (.iadd, 1) := by decide +kernel
theorem dL_law_353 : decode cL_law 353 = .ok (.iaload, 1) := by decide +kernel
