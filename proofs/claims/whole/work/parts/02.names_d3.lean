theorem dX8_readMore_27 : decode cX8_readMore 27 = .ok (.invokevirtual 122, 3) := by decide +kernel
theorem dX8_readMore_30 : decode cX8_readMore 30 = .ok (.iastore, 1) := by decide +kernel
theorem dX8_readMore_31 : decode cX8_readMore 31 = .ok (.aload_n 0, 1) := by decide +kernel
theorem dX8_readMore_32 : decode cX8_readMore 32 = .ok (.dup, 1) := by decide +kernel
theorem dX8_readMore_33 : decode cX8_readMore 33 = .ok (.getfield 134, 3) := by decide +kernel
theorem dX8_readMore_36 : decode cX8_readMore 36 = .ok (.iconst 1, 1) := by decide +kernel
theorem dX8_readMore_37 : decode cX8_readMore 37 = .ok (.iadd, 1) := by decide +kernel
theorem dX8_readMore_38 : decode cX8_readMore 38 = .ok (.putfield 134, 3) := by decide +kernel
theorem dX8_readMore_41 : decode cX8_readMore 41 = .ok (.goto 70, 3) := by decide +kernel
theorem dX8_readMore_44 : decode cX8_readMore 44 = .ok (.iload_n 1, 1) := by decide +kernel
theorem dX8_readMore_45 : decode cX8_readMore 45 = .ok (.iconst 3, 1) := by decide +kernel
theorem dX8_readMore_46 : decode cX8_readMore 46 = .ok (.if_icmp .ne 10, 3) := by decide +kernel
theorem dX8_readMore_49 : decode cX8_readMore 49 = .ok (.aload_n 0, 1) := by decide +kernel
theorem dX8_readMore_50 : decode cX8_readMore 50 = .ok (.invokevirtual 137, 3) := by decide +kernel
theorem dX8_readMore_53 : decode cX8_readMore 53 = .ok (.goto 58, 3) := by decide +kernel
theorem dX8_readMore_56 : decode cX8_readMore 56 = .ok (.iload_n 1, 1) := by decide +kernel
theorem dX8_readMore_57 : decode cX8_readMore 57 = .ok (.iconst 4, 1) := by decide +kernel
theorem dX8_readMore_58 : decode cX8_readMore 58 = .ok (.if_icmp .ne 23, 3) := by decide +kernel
theorem dX8_readMore_61 : decode cX8_readMore 61 = .ok (.aload_n 0, 1) := by decide +kernel
theorem dX8_readMore_62 : decode cX8_readMore 62 = .ok (.getfield 22, 3) := by decide +kernel
theorem dX8_readMore_65 : decode cX8_readMore 65 = .ok (.bipush 30, 2) := by decide +kernel
theorem dX8_readMore_67 : decode cX8_readMore 67 = .ok (.aload_n 0, 1) := by decide +kernel
theorem dX8_readMore_68 : decode cX8_readMore 68 = .ok (.iconst 0, 1) := by decide +kernel
theorem dX8_readMore_69 : decode cX8_readMore 69 = .ok (.bipush 60, 2) := by decide +kernel
theorem dX8_readMore_71 : decode cX8_readMore 71 = .ok (.invokevirtual 122, 3) := by decide +kernel
theorem dX8_readMore_74 : decode cX8_readMore 74 = .ok (.bipush 10, 2) := by decide +kernel
theorem dX8_readMore_76 : decode cX8_readMore 76 = .ok (.isub, 1) := by decide +kernel
theorem dX8_readMore_77 : decode cX8_readMore 77 = .ok (.iastore, 1) := by decide +kernel
theorem dX8_readMore_78 : decode cX8_readMore 78 = .ok (.goto 33, 3) := by decide +kernel
theorem dX8_readMore_81 : decode cX8_readMore 81 = .ok (.iload_n 1, 1) := by decide +kernel
theorem dX8_readMore_82 : decode cX8_readMore 82 = .ok (.iconst 5, 1) := by decide +kernel
theorem dX8_readMore_83 : decode cX8_readMore 83 = .ok (.if_icmp .ne 20, 3) := by decide +kernel
theorem dX8_readMore_86 : decode cX8_readMore 86 = .ok (.aload_n 0, 1) := by decide +kernel
theorem dX8_readMore_87 : decode cX8_readMore 87 = .ok (.getfield 22, 3) := by decide +kernel
theorem dX8_readMore_90 : decode cX8_readMore 90 = .ok (.bipush 31, 2) := by decide +kernel
theorem dX8_readMore_92 : decode cX8_readMore 92 = .ok (.aload_n 0, 1) := by decide +kernel
theorem dX8_readMore_93 : decode cX8_readMore 93 = .ok (.iconst 0, 1) := by decide +kernel
theorem dX8_readMore_94 : decode cX8_readMore 94 = .ok (.bipush 60, 2) := by decide +kernel
theorem dX8_readMore_96 : decode cX8_readMore 96 = .ok (.invokevirtual 122, 3) := by decide +kernel
theorem dX8_readMore_99 : decode cX8_readMore 99 = .ok (.iastore, 1) := by decide +kernel
theorem dX8_readMore_100 : decode cX8_readMore 100 = .ok (.goto 11, 3) := by decide +kernel
theorem dX8_readMore_103 : decode cX8_readMore 103 = .ok (.aload_n 0, 1) := by decide +kernel
theorem dX8_readMore_104 : decode cX8_readMore 104 = .ok (.iload_n 1, 1) := by decide +kernel
theorem dX8_readMore_105 : decode cX8_readMore 105 = .ok (.bipush 6, 2) := by decide +kernel
theorem dX8_readMore_107 : decode cX8_readMore 107 = .ok (.isub, 1) := by decide +kernel
theorem dX8_readMore_108 : decode cX8_readMore 108 = .ok (.invokevirtual 140, 3) := by decide +kernel
theorem dX8_readMore_111 : decode cX8_readMore 111 = .ok (.return_, 1) := by decide +kernel
theorem dX8_readLine_0 : decode cX8_readLine 0 = .ok (.aload_n 0, 1) := by decide +kernel
theorem dX8_readLine_1 : decode cX8_readLine 1 = .ok (.invokevirtual 115, 3) := by decide +kernel
theorem dX8_readLine_4 : decode cX8_readLine 4 = .ok (.istore_n 1, 1) := by decide +kernel
theorem dX8_readLine_5 : decode cX8_readLine 5 = .ok (.iload_n 1, 1) := by decide +kernel
theorem dX8_readLine_6 : decode cX8_readLine 6 = .ok (.i2l, 1) := by decide +kernel
theorem dX8_readLine_7 : decode cX8_readLine 7 = .ok (.lconst 0, 1) := by decide +kernel
theorem dX8_readLine_8 : decode cX8_readLine 8 = .ok (.ldc2_w 143, 3) := by decide +kernel
theorem dX8_readLine_11 : decode cX8_readLine 11 = .ok (.invokestatic 70, 3) := by decide +kernel
theorem dX8_readLine_14 : decode cX8_readLine 14 = .ok (.ifCond .ne 9, 3) := by decide +kernel
theorem dX8_readLine_17 : decode cX8_readLine 17 = .ok (.aload_n 0, 1) := by decide +kernel
theorem dX8_readLine_18 : decode cX8_readLine 18 = .ok (.iconst 2, 1) := by decide +kernel
theorem dX8_readLine_19 : decode cX8_readLine 19 = .ok (.invokevirtual 108, 3) := by decide +kernel
theorem dX8_readLine_22 : decode cX8_readLine 22 = .ok (.return_, 1) := by decide +kernel
theorem dX8_readLine_23 : decode cX8_readLine 23 = .ok (.iload_n 1, 1) := by decide +kernel
theorem dX8_readLine_24 : decode cX8_readLine 24 = .ok (.iconst 2, 1) := by decide +kernel
theorem dX8_readLine_25 : decode cX8_readLine 25 = .ok (.if_icmp .gt 12, 3) := by decide +kernel
theorem dX8_readLine_28 : decode cX8_readLine 28 = .ok (.aload_n 0, 1) := by decide +kernel
theorem dX8_readLine_29 : decode cX8_readLine 29 = .ok (.getfield 134, 3) := by decide +kernel
theorem dX8_readLine_32 : decode cX8_readLine 32 = .ok (.bipush 6, 2) := by decide +kernel
theorem dX8_readLine_34 : decode cX8_readLine 34 = .ok (.if_icmp .eq 16, 3) := by decide +kernel
theorem dX8_readLine_37 : decode cX8_readLine 37 = .ok (.iload_n 1, 1) := by decide +kernel
theorem dX8_readLine_38 : decode cX8_readLine 38 = .ok (.iconst 3, 1) := by decide +kernel
theorem dX8_readLine_39 : decode cX8_readLine 39 = .ok (.if_icmp .ne 16, 3) := by decide +kernel
theorem dX8_readLine_42 : decode cX8_readLine 42 = .ok (.aload_n 0, 1) := by decide +kernel
theorem dX8_readLine_43 : decode cX8_readLine 43 = .ok (.getfield 119, 3) := by decide +kernel
theorem dX8_readLine_46 : decode cX8_readLine 46 = .ok (.iconst 5, 1) := by decide +kernel
theorem dX8_readLine_47 : decode cX8_readLine 47 = .ok (.if_icmp .ne 8, 3) := by decide +kernel
theorem dX8_readLine_50 : decode cX8_readLine 50 = .ok (.aload_n 0, 1) := by decide +kernel
theorem dX8_readLine_51 : decode cX8_readLine 51 = .ok (.iconst 5, 1) := by decide +kernel
theorem dX8_readLine_52 : decode cX8_readLine 52 = .ok (.invokevirtual 108, 3) := by decide +kernel
theorem dX8_readLine_55 : decode cX8_readLine 55 = .ok (.iload_n 1, 1) := by decide +kernel
theorem dX8_readLine_56 : decode cX8_readLine 56 = .ok (.iconst 4, 1) := by decide +kernel
theorem dX8_readLine_57 : decode cX8_readLine 57 = .ok (.if_icmp .lt 20, 3) := by decide +kernel
theorem dX8_readLine_60 : decode cX8_readLine 60 = .ok (.aload_n 0, 1) := by decide +kernel
theorem dX8_readLine_61 : decode cX8_readLine 61 = .ok (.getfield 145, 3) := by decide +kernel
theorem dX8_readLine_64 : decode cX8_readLine 64 = .ok (.iload_n 1, 1) := by decide +kernel
theorem dX8_readLine_65 : decode cX8_readLine 65 = .ok (.ishr, 1) := by decide +kernel
theorem dX8_readLine_66 : decode cX8_readLine 66 = .ok (.iconst 1, 1) := by decide +kernel
theorem dX8_readLine_67 : decode cX8_readLine 67 = .ok (.iand, 1) := by decide +kernel
theorem dX8_readLine_68 : decode cX8_readLine 68 = .ok (.iconst 1, 1) := by decide +kernel
theorem dX8_readLine_69 : decode cX8_readLine 69 = .ok (.if_icmp .ne 8, 3) := by decide +kernel
theorem dX8_readLine_72 : decode cX8_readLine 72 = .ok (.aload_n 0, 1) := by decide +kernel
theorem dX8_readLine_73 : decode cX8_readLine 73 = .ok (.iconst 4, 1) := by decide +kernel
theorem dX8_readLine_74 : decode cX8_readLine 74 = .ok (.invokevirtual 108, 3) := by decide +kernel
theorem dX8_readLine_77 : decode cX8_readLine 77 = .ok (.aload_n 0, 1) := by decide +kernel
theorem dX8_readLine_78 : decode cX8_readLine 78 = .ok (.dup, 1) := by decide +kernel
theorem dX8_readLine_79 : decode cX8_readLine 79 = .ok (.getfield 145, 3) := by decide +kernel
theorem dX8_readLine_82 : decode cX8_readLine 82 = .ok (.iconst 1, 1) := by decide +kernel
theorem dX8_readLine_83 : decode cX8_readLine 83 = .ok (.iload_n 1, 1) := by decide +kernel
theorem dX8_readLine_84 : decode cX8_readLine 84 = .ok (.ishl, 1) := by decide +kernel
theorem dX8_readLine_85 : decode cX8_readLine 85 = .ok (.ior, 1) := by decide +kernel
theorem dX8_readLine_86 : decode cX8_readLine 86 = .ok (.putfield 145, 3) := by decide +kernel
theorem dX8_readLine_89 : decode cX8_readLine 89 = .ok (.aload_n 0, 1) := by decide +kernel
theorem dX8_readLine_90 : decode cX8_readLine 90 = .ok (.invokevirtual 112, 3) := by decide +kernel
theorem dX8_readLine_93 : decode cX8_readLine 93 = .ok (.aload_n 0, 1) := by decide +kernel
theorem dX8_readLine_94 : decode cX8_readLine 94 = .ok (.getfield 78, 3) := by decide +kernel
theorem dX8_readLine_97 : decode cX8_readLine 97 = .ok (.ifCond .le 4, 3) := by decide +kernel
theorem dX8_readLine_100 : decode cX8_readLine 100 = .ok (.return_, 1) := by decide +kernel
theorem dX8_readLine_101 : decode cX8_readLine 101 = .ok (.aload_n 0, 1) := by decide +kernel
theorem dX8_readLine_102 : decode cX8_readLine 102 = .ok (.iload_n 1, 1) := by decide +kernel
theorem dX8_readLine_103 : decode cX8_readLine 103 = .ok (.invokevirtual 148, 3) := by decide +kernel
theorem dX8_readLine_106 : decode cX8_readLine 106 = .ok (.aload_n 0, 1) := by decide +kernel
theorem dX8_readLine_107 : decode cX8_readLine 107 = .ok (.getfield 78, 3) := by decide +kernel
theorem dX8_readLine_110 : decode cX8_readLine 110 = .ok (.ifCond .ne 16, 3) := by decide +kernel
theorem dX8_readLine_113 : decode cX8_readLine 113 = .ok (.aload_n 0, 1) := by decide +kernel
theorem dX8_readLine_114 : decode cX8_readLine 114 = .ok (.getfield 87, 3) := by decide +kernel
theorem dX8_readLine_117 : decode cX8_readLine 117 = .ok (.iconst 3, 1) := by decide +kernel
theorem dX8_readLine_118 : decode cX8_readLine 118 = .ok (.if_icmp .eq 8, 3) := by decide +kernel
theorem dX8_readLine_121 : decode cX8_readLine 121 = .ok (.aload_n 0, 1) := by decide +kernel
theorem dX8_readLine_122 : decode cX8_readLine 122 = .ok (.iconst 2, 1) := by decide +kernel
theorem dX8_readLine_123 : decode cX8_readLine 123 = .ok (.invokevirtual 108, 3) := by decide +kernel
theorem dX8_readLine_126 : decode cX8_readLine 126 = .ok (.aload_n 0, 1) := by decide +kernel
theorem dX8_readLine_127 : decode cX8_readLine 127 = .ok (.invokevirtual 112, 3) := by decide +kernel
theorem dX8_readLine_130 : decode cX8_readLine 130 = .ok (.return_, 1) := by decide +kernel
theorem dX8_laysRow_0 : decode cX8_laysRow 0 = .ok (.iconst 0, 1) := by decide +kernel
theorem dX8_laysRow_1 : decode cX8_laysRow 1 = .ok (.istore_n 3, 1) := by decide +kernel
theorem dX8_laysRow_2 : decode cX8_laysRow 2 = .ok (.iconst 0, 1) := by decide +kernel
theorem dX8_laysRow_3 : decode cX8_laysRow 3 = .ok (.istore 4, 2) := by decide +kernel
theorem dX8_laysRow_5 : decode cX8_laysRow 5 = .ok (.iconst 0, 1) := by decide +kernel
theorem dX8_laysRow_6 : decode cX8_laysRow 6 = .ok (.istore 5, 2) := by decide +kernel
theorem dX8_laysRow_8 : decode cX8_laysRow 8 = .ok (.iload 5, 2) := by decide +kernel
theorem dX8_laysRow_10 : decode cX8_laysRow 10 = .ok (.aload_n 0, 1) := by decide +kernel
theorem dX8_laysRow_11 : decode cX8_laysRow 11 = .ok (.getfield 37, 3) := by decide +kernel
theorem dX8_laysRow_14 : decode cX8_laysRow 14 = .ok (.iload_n 1, 1) := by decide +kernel
theorem dX8_laysRow_15 : decode cX8_laysRow 15 = .ok (.iaload, 1) := by decide +kernel
theorem dX8_laysRow_16 : decode cX8_laysRow 16 = .ok (.if_icmp .ge 51, 3) := by decide +kernel
theorem dX8_laysRow_19 : decode cX8_laysRow 19 = .ok (.aload_n 0, 1) := by decide +kernel
theorem dX8_laysRow_20 : decode cX8_laysRow 20 = .ok (.getfield 22, 3) := by decide +kernel
theorem dX8_laysRow_23 : decode cX8_laysRow 23 = .ok (.iload_n 2, 1) := by decide +kernel
theorem dX8_laysRow_24 : decode cX8_laysRow 24 = .ok (.iload 4, 2) := by decide +kernel
theorem dX8_laysRow_26 : decode cX8_laysRow 26 = .ok (.iadd, 1) := by decide +kernel
theorem dX8_laysRow_27 : decode cX8_laysRow 27 = .ok (.aload_n 0, 1) := by decide +kernel
theorem dX8_laysRow_28 : decode cX8_laysRow 28 = .ok (.getfield 34, 3) := by decide +kernel
theorem dX8_laysRow_31 : decode cX8_laysRow 31 = .ok (.iconst 5, 1) := by decide +kernel
theorem dX8_laysRow_32 : decode cX8_laysRow 32 = .ok (.iload_n 1, 1) := by decide +kernel
theorem dX8_laysRow_33 : decode cX8_laysRow 33 = .ok (.imul, 1) := by decide +kernel
theorem dX8_laysRow_34 : decode cX8_laysRow 34 = .ok (.iload 5, 2) := by decide +kernel
theorem dX8_laysRow_36 : decode cX8_laysRow 36 = .ok (.iadd, 1) := by decide +kernel
theorem dX8_laysRow_37 : decode cX8_laysRow 37 = .ok (.iaload, 1) := by decide +kernel
theorem dX8_laysRow_38 : decode cX8_laysRow 38 = .ok (.iload 4, 2) := by decide +kernel
theorem dX8_laysRow_40 : decode cX8_laysRow 40 = .ok (.isub, 1) := by decide +kernel
theorem dX8_laysRow_41 : decode cX8_laysRow 41 = .ok (.iastore, 1) := by decide +kernel
theorem dX8_laysRow_42 : decode cX8_laysRow 42 = .ok (.iload_n 3, 1) := by decide +kernel
theorem dX8_laysRow_43 : decode cX8_laysRow 43 = .ok (.iconst 1, 1) := by decide +kernel
theorem dX8_laysRow_44 : decode cX8_laysRow 44 = .ok (.aload_n 0, 1) := by decide +kernel
theorem dX8_laysRow_45 : decode cX8_laysRow 45 = .ok (.getfield 34, 3) := by decide +kernel
theorem dX8_laysRow_48 : decode cX8_laysRow 48 = .ok (.iconst 5, 1) := by decide +kernel
theorem dX8_laysRow_49 : decode cX8_laysRow 49 = .ok (.iload_n 1, 1) := by decide +kernel
theorem dX8_laysRow_50 : decode cX8_laysRow 50 = .ok (.imul, 1) := by decide +kernel
theorem dX8_laysRow_51 : decode cX8_laysRow 51 = .ok (.iload 5, 2) := by decide +kernel
theorem dX8_laysRow_53 : decode cX8_laysRow 53 = .ok (.iadd, 1) := by decide +kernel
theorem dX8_laysRow_54 : decode cX8_laysRow 54 = .ok (.iaload, 1) := by decide +kernel
theorem dX8_laysRow_55 : decode cX8_laysRow 55 = .ok (.ishl, 1) := by decide +kernel
theorem dX8_laysRow_56 : decode cX8_laysRow 56 = .ok (.ior, 1) := by decide +kernel
theorem dX8_laysRow_57 : decode cX8_laysRow 57 = .ok (.istore_n 3, 1) := by decide +kernel
theorem dX8_laysRow_58 : decode cX8_laysRow 58 = .ok (.iinc 4 1, 3) := by decide +kernel
theorem dX8_laysRow_61 : decode cX8_laysRow 61 = .ok (.iinc 5 1, 3) := by decide +kernel
theorem dX8_laysRow_64 : decode cX8_laysRow 64 = .ok (.goto (-56), 3) := by decide +kernel
theorem dX8_laysRow_67 : decode cX8_laysRow 67 = .ok (.iconst 0, 1) := by decide +kernel
theorem dX8_laysRow_68 : decode cX8_laysRow 68 = .ok (.istore 5, 2) := by decide +kernel
theorem dX8_laysRow_70 : decode cX8_laysRow 70 = .ok (.iload 5, 2) := by decide +kernel
theorem dX8_laysRow_72 : decode cX8_laysRow 72 = .ok (.aload_n 0, 1) := by decide +kernel
theorem dX8_laysRow_73 : decode cX8_laysRow 73 = .ok (.getfield 119, 3) := by decide +kernel
theorem dX8_laysRow_76 : decode cX8_laysRow 76 = .ok (.if_icmp .ge 35, 3) := by decide +kernel
theorem dX8_laysRow_79 : decode cX8_laysRow 79 = .ok (.iload_n 3, 1) := by decide +kernel
theorem dX8_laysRow_80 : decode cX8_laysRow 80 = .ok (.iload 5, 2) := by decide +kernel
theorem dX8_laysRow_82 : decode cX8_laysRow 82 = .ok (.ishr, 1) := by decide +kernel
theorem dX8_laysRow_83 : decode cX8_laysRow 83 = .ok (.iconst 1, 1) := by decide +kernel
theorem dX8_laysRow_84 : decode cX8_laysRow 84 = .ok (.iand, 1) := by decide +kernel
theorem dX8_laysRow_85 : decode cX8_laysRow 85 = .ok (.ifCond .ne 20, 3) := by decide +kernel
theorem dX8_laysRow_88 : decode cX8_laysRow 88 = .ok (.aload_n 0, 1) := by decide +kernel
theorem dX8_laysRow_89 : decode cX8_laysRow 89 = .ok (.getfield 22, 3) := by decide +kernel
theorem dX8_laysRow_92 : decode cX8_laysRow 92 = .ok (.iload_n 2, 1) := by decide +kernel
theorem dX8_laysRow_93 : decode cX8_laysRow 93 = .ok (.iload 4, 2) := by decide +kernel
theorem dX8_laysRow_95 : decode cX8_laysRow 95 = .ok (.iadd, 1) := by decide +kernel
theorem dX8_laysRow_96 : decode cX8_laysRow 96 = .ok (.iload 5, 2) := by decide +kernel
theorem dX8_laysRow_98 : decode cX8_laysRow 98 = .ok (.iload 4, 2) := by decide +kernel
theorem dX8_laysRow_100 : decode cX8_laysRow 100 = .ok (.isub, 1) := by decide +kernel
theorem dX8_laysRow_101 : decode cX8_laysRow 101 = .ok (.iastore, 1) := by decide +kernel
theorem dX8_laysRow_102 : decode cX8_laysRow 102 = .ok (.iinc 4 1, 3) := by decide +kernel
theorem dX8_laysRow_105 : decode cX8_laysRow 105 = .ok (.iinc 5 1, 3) := by decide +kernel
theorem dX8_laysRow_108 : decode cX8_laysRow 108 = .ok (.goto (-38), 3) := by decide +kernel
theorem dX8_laysRow_111 : decode cX8_laysRow 111 = .ok (.return_, 1) := by decide +kernel
theorem dX8_begins_0 : decode cX8_begins 0 = .ok (.aload_n 0, 1) := by decide +kernel
theorem dX8_begins_1 : decode cX8_begins 1 = .ok (.iconst 0, 1) := by decide +kernel
theorem dX8_begins_2 : decode cX8_begins 2 = .ok (.putfield 78, 3) := by decide +kernel
theorem dX8_begins_5 : decode cX8_begins 5 = .ok (.aload_n 0, 1) := by decide +kernel
theorem dX8_begins_6 : decode cX8_begins 6 = .ok (.iconst 0, 1) := by decide +kernel
theorem dX8_begins_7 : decode cX8_begins 7 = .ok (.putfield 90, 3) := by decide +kernel
theorem dX8_begins_10 : decode cX8_begins 10 = .ok (.aload_n 0, 1) := by decide +kernel
theorem dX8_begins_11 : decode cX8_begins 11 = .ok (.iconst 0, 1) := by decide +kernel
theorem dX8_begins_12 : decode cX8_begins 12 = .ok (.putfield 134, 3) := by decide +kernel
theorem dX8_begins_15 : decode cX8_begins 15 = .ok (.aload_n 0, 1) := by decide +kernel
theorem dX8_begins_16 : decode cX8_begins 16 = .ok (.iconst 0, 1) := by decide +kernel
theorem dX8_begins_17 : decode cX8_begins 17 = .ok (.putfield 119, 3) := by decide +kernel
theorem dX8_begins_20 : decode cX8_begins 20 = .ok (.aload_n 0, 1) := by decide +kernel
theorem dX8_begins_21 : decode cX8_begins 21 = .ok (.iconst 0, 1) := by decide +kernel
theorem dX8_begins_22 : decode cX8_begins 22 = .ok (.putfield 145, 3) := by decide +kernel
theorem dX8_begins_25 : decode cX8_begins 25 = .ok (.aload_n 0, 1) := by decide +kernel
theorem dX8_begins_26 : decode cX8_begins 26 = .ok (.getfield 37, 3) := by decide +kernel
theorem dX8_begins_29 : decode cX8_begins 29 = .ok (.iconst 0, 1) := by decide +kernel
theorem dX8_begins_30 : decode cX8_begins 30 = .ok (.iconst 0, 1) := by decide +kernel
theorem dX8_begins_31 : decode cX8_begins 31 = .ok (.iastore, 1) := by decide +kernel
theorem dX8_begins_32 : decode cX8_begins 32 = .ok (.aload_n 0, 1) := by decide +kernel
theorem dX8_begins_33 : decode cX8_begins 33 = .ok (.getfield 37, 3) := by decide +kernel
theorem dX8_begins_36 : decode cX8_begins 36 = .ok (.iconst 1, 1) := by decide +kernel
theorem dX8_begins_37 : decode cX8_begins 37 = .ok (.iconst 0, 1) := by decide +kernel
theorem dX8_begins_38 : decode cX8_begins 38 = .ok (.iastore, 1) := by decide +kernel
theorem dX8_begins_39 : decode cX8_begins 39 = .ok (.aload_n 0, 1) := by decide +kernel
theorem dX8_begins_40 : decode cX8_begins 40 = .ok (.iconst 0, 1) := by decide +kernel
theorem dX8_begins_41 : decode cX8_begins 41 = .ok (.putfield 126, 3) := by decide +kernel
theorem dX8_begins_44 : decode cX8_begins 44 = .ok (.aload_n 0, 1) := by decide +kernel
theorem dX8_begins_45 : decode cX8_begins 45 = .ok (.iconst (-1), 1) := by decide +kernel
theorem dX8_begins_46 : decode cX8_begins 46 = .ok (.putfield 131, 3) := by decide +kernel
theorem dX8_begins_49 : decode cX8_begins 49 = .ok (.iconst 0, 1) := by decide +kernel
theorem dX8_begins_50 : decode cX8_begins 50 = .ok (.istore_n 1, 1) := by decide +kernel
theorem dX8_begins_51 : decode cX8_begins 51 = .ok (.iload_n 1, 1) := by decide +kernel
theorem dX8_begins_52 : decode cX8_begins 52 = .ok (.bipush 32, 2) := by decide +kernel
theorem dX8_begins_54 : decode cX8_begins 54 = .ok (.if_icmp .ge 16, 3) := by decide +kernel
theorem dX8_begins_57 : decode cX8_begins 57 = .ok (.aload_n 0, 1) := by decide +kernel
theorem dX8_begins_58 : decode cX8_begins 58 = .ok (.getfield 22, 3) := by decide +kernel
theorem dX8_begins_61 : decode cX8_begins 61 = .ok (.iload_n 1, 1) := by decide +kernel
theorem dX8_begins_62 : decode cX8_begins 62 = .ok (.iconst 0, 1) := by decide +kernel
theorem dX8_begins_63 : decode cX8_begins 63 = .ok (.iastore, 1) := by decide +kernel
theorem dX8_begins_64 : decode cX8_begins 64 = .ok (.iinc 1 1, 3) := by decide +kernel
theorem dX8_begins_67 : decode cX8_begins 67 = .ok (.goto (-16), 3) := by decide +kernel
theorem dX8_begins_70 : decode cX8_begins 70 = .ok (.return_, 1) := by decide +kernel
theorem dX8_text_0 : decode cX8_text 0 = .ok (.iconst 0, 1) := by decide +kernel
theorem dX8_text_1 : decode cX8_text 1 = .ok (.istore_n 1, 1) := by decide +kernel
theorem dX8_text_2 : decode cX8_text 2 = .ok (.aload_n 0, 1) := by decide +kernel
theorem dX8_text_3 : decode cX8_text 3 = .ok (.invokevirtual 151, 3) := by decide +kernel
theorem dX8_text_6 : decode cX8_text 6 = .ok (.aload_n 0, 1) := by decide +kernel
theorem dX8_text_7 : decode cX8_text 7 = .ok (.invokevirtual 112, 3) := by decide +kernel
theorem dX8_text_10 : decode cX8_text 10 = .ok (.aload_n 0, 1) := by decide +kernel
theorem dX8_text_11 : decode cX8_text 11 = .ok (.getfield 78, 3) := by decide +kernel
theorem dX8_text_14 : decode cX8_text 14 = .ok (.ifCond .ne 20, 3) := by decide +kernel
theorem dX8_text_17 : decode cX8_text 17 = .ok (.aload_n 0, 1) := by decide +kernel
theorem dX8_text_18 : decode cX8_text 18 = .ok (.getfield 87, 3) := by decide +kernel
theorem dX8_text_21 : decode cX8_text 21 = .ok (.ifCond .eq 13, 3) := by decide +kernel
theorem dX8_text_24 : decode cX8_text 24 = .ok (.aload_n 0, 1) := by decide +kernel
theorem dX8_text_25 : decode cX8_text 25 = .ok (.invokevirtual 154, 3) := by decide +kernel
theorem dX8_text_28 : decode cX8_text 28 = .ok (.iinc 1 1, 3) := by decide +kernel
theorem dX8_text_31 : decode cX8_text 31 = .ok (.goto (-21), 3) := by decide +kernel
theorem dX8_text_34 : decode cX8_text 34 = .ok (.aload_n 0, 1) := by decide +kernel
theorem dX8_text_35 : decode cX8_text 35 = .ok (.getfield 78, 3) := by decide +kernel
theorem dX8_text_38 : decode cX8_text 38 = .ok (.ifCond .ne 31, 3) := by decide +kernel
theorem dX8_text_41 : decode cX8_text 41 = .ok (.aload_n 0, 1) := by decide +kernel
theorem dX8_text_42 : decode cX8_text 42 = .ok (.getfield 126, 3) := by decide +kernel
theorem dX8_text_45 : decode cX8_text 45 = .ok (.aload_n 0, 1) := by decide +kernel
theorem dX8_text_46 : decode cX8_text 46 = .ok (.getfield 134, 3) := by decide +kernel
theorem dX8_text_49 : decode cX8_text 49 = .ok (.if_icmp .gt 14, 3) := by decide +kernel
theorem dX8_text_52 : decode cX8_text 52 = .ok (.aload_n 0, 1) := by decide +kernel
theorem dX8_text_53 : decode cX8_text 53 = .ok (.getfield 131, 3) := by decide +kernel
theorem dX8_text_56 : decode cX8_text 56 = .ok (.aload_n 0, 1) := by decide +kernel
theorem dX8_text_57 : decode cX8_text 57 = .ok (.getfield 119, 3) := by decide +kernel
theorem dX8_text_60 : decode cX8_text 60 = .ok (.if_icmp .lt 9, 3) := by decide +kernel
theorem dX8_text_63 : decode cX8_text 63 = .ok (.aload_n 0, 1) := by decide +kernel
theorem dX8_text_64 : decode cX8_text 64 = .ok (.bipush 6, 2) := by decide +kernel
theorem dX8_text_66 : decode cX8_text 66 = .ok (.invokevirtual 108, 3) := by decide +kernel
theorem dX8_text_69 : decode cX8_text 69 = .ok (.aload_n 0, 1) := by decide +kernel
theorem dX8_text_70 : decode cX8_text 70 = .ok (.iconst 0, 1) := by decide +kernel
theorem dX8_text_71 : decode cX8_text 71 = .ok (.putfield 74, 3) := by decide +kernel
theorem dX8_text_74 : decode cX8_text 74 = .ok (.aload_n 0, 1) := by decide +kernel
theorem dX8_text_75 : decode cX8_text 75 = .ok (.aload_n 0, 1) := by decide +kernel
theorem dX8_text_76 : decode cX8_text 76 = .ok (.getfield 78, 3) := by decide +kernel
theorem dX8_text_79 : decode cX8_text 79 = .ok (.putfield 157, 3) := by decide +kernel
theorem dX8_text_82 : decode cX8_text 82 = .ok (.aload_n 0, 1) := by decide +kernel
theorem dX8_text_83 : decode cX8_text 83 = .ok (.getfield 78, 3) := by decide +kernel
theorem dX8_text_86 : decode cX8_text 86 = .ok (.ifCond .le 11, 3) := by decide +kernel
theorem dX8_text_89 : decode cX8_text 89 = .ok (.bipush (-10), 2) := by decide +kernel
theorem dX8_text_91 : decode cX8_text 91 = .ok (.aload_n 0, 1) := by decide +kernel
theorem dX8_text_92 : decode cX8_text 92 = .ok (.getfield 84, 3) := by decide +kernel
theorem dX8_text_95 : decode cX8_text 95 = .ok (.isub, 1) := by decide +kernel
theorem dX8_text_96 : decode cX8_text 96 = .ok (.ireturn, 1) := by decide +kernel
theorem dX8_text_97 : decode cX8_text 97 = .ok (.aload_n 0, 1) := by decide +kernel
theorem dX8_text_98 : decode cX8_text 98 = .ok (.iconst 0, 1) := by decide +kernel
theorem dX8_text_99 : decode cX8_text 99 = .ok (.bipush 20, 2) := by decide +kernel
theorem dX8_text_101 : decode cX8_text 101 = .ok (.invokevirtual 160, 3) := by decide +kernel
theorem dX8_text_104 : decode cX8_text 104 = .ok (.aload_n 0, 1) := by decide +kernel
theorem dX8_text_105 : decode cX8_text 105 = .ok (.iconst 1, 1) := by decide +kernel
theorem dX8_text_106 : decode cX8_text 106 = .ok (.bipush 25, 2) := by decide +kernel
theorem dX8_text_108 : decode cX8_text 108 = .ok (.invokevirtual 160, 3) := by decide +kernel
theorem dX8_text_111 : decode cX8_text 111 = .ok (.iconst 0, 1) := by decide +kernel
theorem dX8_text_112 : decode cX8_text 112 = .ok (.istore_n 2, 1) := by decide +kernel
theorem dX8_text_113 : decode cX8_text 113 = .ok (.iload_n 2, 1) := by decide +kernel
theorem dX8_text_114 : decode cX8_text 114 = .ok (.bipush 32, 2) := by decide +kernel
theorem dX8_text_116 : decode cX8_text 116 = .ok (.if_icmp .ge 73, 3) := by decide +kernel
theorem dX8_text_119 : decode cX8_text 119 = .ok (.aload_n 0, 1) := by decide +kernel
theorem dX8_text_120 : decode cX8_text 120 = .ok (.getfield 7, 3) := by decide +kernel
theorem dX8_text_123 : decode cX8_text 123 = .ok (.iload_n 2, 1) := by decide +kernel
theorem dX8_text_124 : decode cX8_text 124 = .ok (.aload_n 0, 1) := by decide +kernel
theorem dX8_text_125 : decode cX8_text 125 = .ok (.getfield 22, 3) := by decide +kernel
theorem dX8_text_128 : decode cX8_text 128 = .ok (.iload_n 2, 1) := by decide +kernel
theorem dX8_text_129 : decode cX8_text 129 = .ok (.iaload, 1) := by decide +kernel
theorem dX8_text_130 : decode cX8_text 130 = .ok (.iastore, 1) := by decide +kernel
theorem dX8_text_131 : decode cX8_text 131 = .ok (.aload_n 0, 1) := by decide +kernel
theorem dX8_text_132 : decode cX8_text 132 = .ok (.getfield 13, 3) := by decide +kernel
theorem dX8_text_135 : decode cX8_text 135 = .ok (.iload_n 2, 1) := by decide +kernel
theorem dX8_text_136 : decode cX8_text 136 = .ok (.bipush 6, 2) := by decide +kernel
theorem dX8_text_138 : decode cX8_text 138 = .ok (.irem, 1) := by decide +kernel
theorem dX8_text_139 : decode cX8_text 139 = .ok (.aload_n 0, 1) := by decide +kernel
theorem dX8_text_140 : decode cX8_text 140 = .ok (.getfield 25, 3) := by decide +kernel
theorem dX8_text_143 : decode cX8_text 143 = .ok (.iload_n 2, 1) := by decide +kernel
theorem dX8_text_144 : decode cX8_text 144 = .ok (.bipush 6, 2) := by decide +kernel
theorem dX8_text_146 : decode cX8_text 146 = .ok (.irem, 1) := by decide +kernel
theorem dX8_text_147 : decode cX8_text 147 = .ok (.iaload, 1) := by decide +kernel
theorem dX8_text_148 : decode cX8_text 148 = .ok (.iastore, 1) := by decide +kernel
theorem dX8_text_149 : decode cX8_text 149 = .ok (.aload_n 0, 1) := by decide +kernel
theorem dX8_text_150 : decode cX8_text 150 = .ok (.getfield 16, 3) := by decide +kernel
theorem dX8_text_153 : decode cX8_text 153 = .ok (.iload_n 2, 1) := by decide +kernel
theorem dX8_text_154 : decode cX8_text 154 = .ok (.bipush 6, 2) := by decide +kernel
theorem dX8_text_156 : decode cX8_text 156 = .ok (.irem, 1) := by decide +kernel
theorem dX8_text_157 : decode cX8_text 157 = .ok (.aload_n 0, 1) := by decide +kernel
theorem dX8_text_158 : decode cX8_text 158 = .ok (.getfield 28, 3) := by decide +kernel
theorem dX8_text_161 : decode cX8_text 161 = .ok (.iload_n 2, 1) := by decide +kernel
theorem dX8_text_162 : decode cX8_text 162 = .ok (.bipush 6, 2) := by decide +kernel
theorem dX8_text_164 : decode cX8_text 164 = .ok (.irem, 1) := by decide +kernel
theorem dX8_text_165 : decode cX8_text 165 = .ok (.iaload, 1) := by decide +kernel
theorem dX8_text_166 : decode cX8_text 166 = .ok (.iastore, 1) := by decide +kernel
theorem dX8_text_167 : decode cX8_text 167 = .ok (.aload_n 0, 1) := by decide +kernel
theorem dX8_text_168 : decode cX8_text 168 = .ok (.getfield 19, 3) := by decide +kernel
theorem dX8_text_171 : decode cX8_text 171 = .ok (.iload_n 2, 1) := by decide +kernel
theorem dX8_text_172 : decode cX8_text 172 = .ok (.iconst 5, 1) := by decide +kernel
theorem dX8_text_173 : decode cX8_text 173 = .ok (.irem, 1) := by decide +kernel
theorem dX8_text_174 : decode cX8_text 174 = .ok (.aload_n 0, 1) := by decide +kernel
theorem dX8_text_175 : decode cX8_text 175 = .ok (.getfield 31, 3) := by decide +kernel
theorem dX8_text_178 : decode cX8_text 178 = .ok (.iload_n 2, 1) := by decide +kernel
theorem dX8_text_179 : decode cX8_text 179 = .ok (.iconst 5, 1) := by decide +kernel
theorem dX8_text_180 : decode cX8_text 180 = .ok (.irem, 1) := by decide +kernel
theorem dX8_text_181 : decode cX8_text 181 = .ok (.iaload, 1) := by decide +kernel
theorem dX8_text_182 : decode cX8_text 182 = .ok (.iastore, 1) := by decide +kernel
theorem dX8_text_183 : decode cX8_text 183 = .ok (.iinc 2 1, 3) := by decide +kernel
theorem dX8_text_186 : decode cX8_text 186 = .ok (.goto (-73), 3) := by decide +kernel
theorem dX8_text_189 : decode cX8_text 189 = .ok (.aload_n 0, 1) := by decide +kernel
theorem dX8_text_190 : decode cX8_text 190 = .ok (.aload_n 0, 1) := by decide +kernel
theorem dX8_text_191 : decode cX8_text 191 = .ok (.getfield 134, 3) := by decide +kernel
theorem dX8_text_194 : decode cX8_text 194 = .ok (.putfield 164, 3) := by decide +kernel
theorem dX8_text_197 : decode cX8_text 197 = .ok (.aload_n 0, 1) := by decide +kernel
theorem dX8_text_198 : decode cX8_text 198 = .ok (.aload_n 0, 1) := by decide +kernel
theorem dX8_text_199 : decode cX8_text 199 = .ok (.getfield 119, 3) := by decide +kernel
theorem dX8_text_202 : decode cX8_text 202 = .ok (.putfield 167, 3) := by decide +kernel
theorem dX8_text_205 : decode cX8_text 205 = .ok (.aload_n 0, 1) := by decide +kernel
theorem dX8_text_206 : decode cX8_text 206 = .ok (.iconst 0, 1) := by decide +kernel
theorem dX8_text_207 : decode cX8_text 207 = .ok (.putfield 170, 3) := by decide +kernel
theorem dX8_text_210 : decode cX8_text 210 = .ok (.aload_n 0, 1) := by decide +kernel
theorem dX8_text_211 : decode cX8_text 211 = .ok (.getfield 55, 3) := by decide +kernel
theorem dX8_text_214 : decode cX8_text 214 = .ok (.iconst 0, 1) := by decide +kernel
theorem dX8_text_215 : decode cX8_text 215 = .ok (.iconst 0, 1) := by decide +kernel
theorem dX8_text_216 : decode cX8_text 216 = .ok (.bastore, 1) := by decide +kernel
theorem dX8_text_217 : decode cX8_text 217 = .ok (.aload_n 0, 1) := by decide +kernel
theorem dX8_text_218 : decode cX8_text 218 = .ok (.getfield 55, 3) := by decide +kernel
theorem dX8_text_221 : decode cX8_text 221 = .ok (.iconst 1, 1) := by decide +kernel
theorem dX8_text_222 : decode cX8_text 222 = .ok (.iconst 0, 1) := by decide +kernel
theorem dX8_text_223 : decode cX8_text 223 = .ok (.bastore, 1) := by decide +kernel
theorem dX8_text_224 : decode cX8_text 224 = .ok (.iload_n 1, 1) := by decide +kernel
theorem dX8_text_225 : decode cX8_text 225 = .ok (.ireturn, 1) := by decide +kernel
theorem dX8_fault_0 : decode cX8_fault 0 = .ok (.aload_n 0, 1) := by decide +kernel
theorem dX8_fault_1 : decode cX8_fault 1 = .ok (.getfield 157, 3) := by decide +kernel
theorem dX8_fault_4 : decode cX8_fault 4 = .ok (.ireturn, 1) := by decide +kernel
theorem dX8_isOrder_0 : decode cX8_isOrder 0 = .ok (.iload_n 1, 1) := by decide +kernel
theorem dX8_isOrder_1 : decode cX8_isOrder 1 = .ok (.i2l, 1) := by decide +kernel
theorem dX8_isOrder_2 : decode cX8_isOrder 2 = .ok (.lconst 0, 1) := by decide +kernel
theorem dX8_isOrder_3 : decode cX8_isOrder 3 = .ok (.aload_n 0, 1) := by decide +kernel
theorem dX8_isOrder_4 : decode cX8_isOrder 4 = .ok (.getfield 167, 3) := by decide +kernel
theorem dX8_isOrder_7 : decode cX8_isOrder 7 = .ok (.iconst 1, 1) := by decide +kernel
theorem dX8_isOrder_8 : decode cX8_isOrder 8 = .ok (.isub, 1) := by decide +kernel
theorem dX8_isOrder_9 : decode cX8_isOrder 9 = .ok (.i2l, 1) := by decide +kernel
theorem dX8_isOrder_10 : decode cX8_isOrder 10 = .ok (.invokestatic 70, 3) := by decide +kernel
theorem dX8_isOrder_13 : decode cX8_isOrder 13 = .ok (.ireturn, 1) := by decide +kernel
theorem dX8_push_0 : decode cX8_push 0 = .ok (.aload_n 0, 1) := by decide +kernel
theorem dX8_push_1 : decode cX8_push 1 = .ok (.getfield 7, 3) := by decide +kernel
theorem dX8_push_4 : decode cX8_push 4 = .ok (.bipush 30, 2) := by decide +kernel
theorem dX8_push_6 : decode cX8_push 6 = .ok (.iaload, 1) := by decide +kernel
theorem dX8_push_7 : decode cX8_push 7 = .ok (.bipush 10, 2) := by decide +kernel
theorem dX8_push_9 : decode cX8_push 9 = .ok (.iadd, 1) := by decide +kernel
theorem dX8_push_10 : decode cX8_push 10 = .ok (.ireturn, 1) := by decide +kernel
theorem dX8_at_0 : decode cX8_at 0 = .ok (.aload_n 0, 1) := by decide +kernel
theorem dX8_at_1 : decode cX8_at 1 = .ok (.getfield 7, 3) := by decide +kernel
theorem dX8_at_4 : decode cX8_at 4 = .ok (.iload_n 1, 1) := by decide +kernel
theorem dX8_at_5 : decode cX8_at 5 = .ok (.iload_n 2, 1) := by decide +kernel
theorem dX8_at_6 : decode cX8_at 6 = .ok (.iadd, 1) := by decide +kernel
theorem dX8_at_7 : decode cX8_at 7 = .ok (.iaload, 1) := by decide +kernel
theorem dX8_at_8 : decode cX8_at 8 = .ok (.iload_n 2, 1) := by decide +kernel
theorem dX8_at_9 : decode cX8_at 9 = .ok (.iadd, 1) := by decide +kernel
theorem dX8_at_10 : decode cX8_at 10 = .ok (.ireturn, 1) := by decide +kernel
theorem dX8_placeOf_0 : decode cX8_placeOf 0 = .ok (.iconst 0, 1) := by decide +kernel
theorem dX8_placeOf_1 : decode cX8_placeOf 1 = .ok (.istore_n 3, 1) := by decide +kernel
theorem dX8_placeOf_2 : decode cX8_placeOf 2 = .ok (.aload_n 0, 1) := by decide +kernel
theorem dX8_placeOf_3 : decode cX8_placeOf 3 = .ok (.iload_n 1, 1) := by decide +kernel
theorem dX8_placeOf_4 : decode cX8_placeOf 4 = .ok (.iload_n 3, 1) := by decide +kernel
theorem dX8_placeOf_5 : decode cX8_placeOf 5 = .ok (.invokevirtual 173, 3) := by decide +kernel
theorem dX8_placeOf_8 : decode cX8_placeOf 8 = .ok (.iload_n 2, 1) := by decide +kernel
theorem dX8_placeOf_9 : decode cX8_placeOf 9 = .ok (.if_icmp .eq 9, 3) := by decide +kernel
theorem dX8_placeOf_12 : decode cX8_placeOf 12 = .ok (.iinc 3 1, 3) := by decide +kernel
theorem dX8_placeOf_15 : decode cX8_placeOf 15 = .ok (.goto (-13), 3) := by decide +kernel
theorem dX8_placeOf_18 : decode cX8_placeOf 18 = .ok (.iload_n 3, 1) := by decide +kernel
theorem dX8_placeOf_19 : decode cX8_placeOf 19 = .ok (.ireturn, 1) := by decide +kernel
theorem dX8_codeOf_0 : decode cX8_codeOf 0 = .ok (.iconst 0, 1) := by decide +kernel
theorem dX8_codeOf_1 : decode cX8_codeOf 1 = .ok (.istore_n 2, 1) := by decide +kernel
theorem dX8_codeOf_2 : decode cX8_codeOf 2 = .ok (.iconst 0, 1) := by decide +kernel
theorem dX8_codeOf_3 : decode cX8_codeOf 3 = .ok (.istore_n 3, 1) := by decide +kernel
theorem dX8_codeOf_4 : decode cX8_codeOf 4 = .ok (.iload_n 3, 1) := by decide +kernel
theorem dX8_codeOf_5 : decode cX8_codeOf 5 = .ok (.aload_n 0, 1) := by decide +kernel
theorem dX8_codeOf_6 : decode cX8_codeOf 6 = .ok (.getfield 167, 3) := by decide +kernel
theorem dX8_codeOf_9 : decode cX8_codeOf 9 = .ok (.if_icmp .ge 20, 3) := by decide +kernel
theorem dX8_codeOf_12 : decode cX8_codeOf 12 = .ok (.iconst 5, 1) := by decide +kernel
theorem dX8_codeOf_13 : decode cX8_codeOf 13 = .ok (.iload_n 2, 1) := by decide +kernel
theorem dX8_codeOf_14 : decode cX8_codeOf 14 = .ok (.imul, 1) := by decide +kernel
theorem dX8_codeOf_15 : decode cX8_codeOf 15 = .ok (.aload_n 0, 1) := by decide +kernel
theorem dX8_codeOf_16 : decode cX8_codeOf 16 = .ok (.iload_n 1, 1) := by decide +kernel
theorem dX8_codeOf_17 : decode cX8_codeOf 17 = .ok (.iload_n 3, 1) := by decide +kernel
theorem dX8_codeOf_18 : decode cX8_codeOf 18 = .ok (.invokevirtual 173, 3) := by decide +kernel
theorem dX8_codeOf_21 : decode cX8_codeOf 21 = .ok (.iadd, 1) := by decide +kernel
theorem dX8_codeOf_22 : decode cX8_codeOf 22 = .ok (.istore_n 2, 1) := by decide +kernel
theorem dX8_codeOf_23 : decode cX8_codeOf 23 = .ok (.iinc 3 1, 3) := by decide +kernel
theorem dX8_codeOf_26 : decode cX8_codeOf 26 = .ok (.goto (-22), 3) := by decide +kernel
theorem dX8_codeOf_29 : decode cX8_codeOf 29 = .ok (.iload_n 2, 1) := by decide +kernel
theorem dX8_codeOf_30 : decode cX8_codeOf 30 = .ok (.ireturn, 1) := by decide +kernel
theorem dX8_laysCode_0 : decode cX8_laysCode 0 = .ok (.iload_n 2, 1) := by decide +kernel
theorem dX8_laysCode_1 : decode cX8_laysCode 1 = .ok (.istore_n 3, 1) := by decide +kernel
theorem dX8_laysCode_2 : decode cX8_laysCode 2 = .ok (.iconst 0, 1) := by decide +kernel
theorem dX8_laysCode_3 : decode cX8_laysCode 3 = .ok (.istore 4, 2) := by decide +kernel
theorem dX8_laysCode_5 : decode cX8_laysCode 5 = .ok (.iconst 1, 1) := by decide +kernel
theorem dX8_laysCode_6 : decode cX8_laysCode 6 = .ok (.istore 5, 2) := by decide +kernel
theorem dX8_laysCode_8 : decode cX8_laysCode 8 = .ok (.aload_n 0, 1) := by decide +kernel
theorem dX8_laysCode_9 : decode cX8_laysCode 9 = .ok (.getfield 167, 3) := by decide +kernel
theorem dX8_laysCode_12 : decode cX8_laysCode 12 = .ok (.iconst 1, 1) := by decide +kernel
theorem dX8_laysCode_13 : decode cX8_laysCode 13 = .ok (.isub, 1) := by decide +kernel
theorem dX8_laysCode_14 : decode cX8_laysCode 14 = .ok (.istore 6, 2) := by decide +kernel
theorem dX8_laysCode_16 : decode cX8_laysCode 16 = .ok (.iload 6, 2) := by decide +kernel
theorem dX8_laysCode_18 : decode cX8_laysCode 18 = .ok (.ifCond .lt 58, 3) := by decide +kernel
theorem dX8_laysCode_21 : decode cX8_laysCode 21 = .ok (.iload_n 3, 1) := by decide +kernel
theorem dX8_laysCode_22 : decode cX8_laysCode 22 = .ok (.iconst 5, 1) := by decide +kernel
theorem dX8_laysCode_23 : decode cX8_laysCode 23 = .ok (.irem, 1) := by decide +kernel
theorem dX8_laysCode_24 : decode cX8_laysCode 24 = .ok (.istore 7, 2) := by decide +kernel
theorem dX8_laysCode_26 : decode cX8_laysCode 26 = .ok (.iload_n 3, 1) := by decide +kernel
theorem dX8_laysCode_27 : decode cX8_laysCode 27 = .ok (.iconst 5, 1) := by decide +kernel
theorem dX8_laysCode_28 : decode cX8_laysCode 28 = .ok (.idiv, 1) := by decide +kernel
theorem dX8_laysCode_29 : decode cX8_laysCode 29 = .ok (.istore_n 3, 1) := by decide +kernel
theorem dX8_laysCode_30 : decode cX8_laysCode 30 = .ok (.iload 5, 2) := by decide +kernel
theorem dX8_laysCode_32 : decode cX8_laysCode 32 = .ok (.ifCond .eq 26, 3) := by decide +kernel
theorem dX8_laysCode_35 : decode cX8_laysCode 35 = .ok (.iload 7, 2) := by decide +kernel
theorem dX8_laysCode_37 : decode cX8_laysCode 37 = .ok (.aload_n 0, 1) := by decide +kernel
theorem dX8_laysCode_38 : decode cX8_laysCode 38 = .ok (.getfield 167, 3) := by decide +kernel
theorem dX8_laysCode_41 : decode cX8_laysCode 41 = .ok (.if_icmp .ge 17, 3) := by decide +kernel
theorem dX8_laysCode_44 : decode cX8_laysCode 44 = .ok (.iload 4, 2) := by decide +kernel
theorem dX8_laysCode_46 : decode cX8_laysCode 46 = .ok (.iload 7, 2) := by decide +kernel
theorem dX8_laysCode_48 : decode cX8_laysCode 48 = .ok (.ishr, 1) := by decide +kernel
theorem dX8_laysCode_49 : decode cX8_laysCode 49 = .ok (.iconst 1, 1) := by decide +kernel
theorem dX8_laysCode_50 : decode cX8_laysCode 50 = .ok (.iand, 1) := by decide +kernel
theorem dX8_laysCode_51 : decode cX8_laysCode 51 = .ok (.ifCond .ne 7, 3) := by decide +kernel
theorem dX8_laysCode_54 : decode cX8_laysCode 54 = .ok (.iconst 1, 1) := by decide +kernel
theorem dX8_laysCode_55 : decode cX8_laysCode 55 = .ok (.goto 4, 3) := by decide +kernel
theorem dX8_laysCode_58 : decode cX8_laysCode 58 = .ok (.iconst 0, 1) := by decide +kernel
theorem dX8_laysCode_59 : decode cX8_laysCode 59 = .ok (.istore 5, 2) := by decide +kernel
theorem dX8_laysCode_61 : decode cX8_laysCode 61 = .ok (.iload 4, 2) := by decide +kernel
theorem dX8_laysCode_63 : decode cX8_laysCode 63 = .ok (.iconst 1, 1) := by decide +kernel
theorem dX8_laysCode_64 : decode cX8_laysCode 64 = .ok (.iload 7, 2) := by decide +kernel
theorem dX8_laysCode_66 : decode cX8_laysCode 66 = .ok (.ishl, 1) := by decide +kernel
theorem dX8_laysCode_67 : decode cX8_laysCode 67 = .ok (.ior, 1) := by decide +kernel
theorem dX8_laysCode_68 : decode cX8_laysCode 68 = .ok (.istore 4, 2) := by decide +kernel
theorem dX8_laysCode_70 : decode cX8_laysCode 70 = .ok (.iinc 6 (-1), 3) := by decide +kernel
theorem dX8_laysCode_73 : decode cX8_laysCode 73 = .ok (.goto (-57), 3) := by decide +kernel
theorem dX8_laysCode_76 : decode cX8_laysCode 76 = .ok (.iload_n 2, 1) := by decide +kernel
theorem dX8_laysCode_77 : decode cX8_laysCode 77 = .ok (.istore_n 3, 1) := by decide +kernel
theorem dX8_laysCode_78 : decode cX8_laysCode 78 = .ok (.aload_n 0, 1) := by decide +kernel
theorem dX8_laysCode_79 : decode cX8_laysCode 79 = .ok (.getfield 167, 3) := by decide +kernel
theorem dX8_laysCode_82 : decode cX8_laysCode 82 = .ok (.iconst 1, 1) := by decide +kernel
theorem dX8_laysCode_83 : decode cX8_laysCode 83 = .ok (.isub, 1) := by decide +kernel
theorem dX8_laysCode_84 : decode cX8_laysCode 84 = .ok (.istore 6, 2) := by decide +kernel
theorem dX8_laysCode_86 : decode cX8_laysCode 86 = .ok (.iload 6, 2) := by decide +kernel
theorem dX8_laysCode_88 : decode cX8_laysCode 88 = .ok (.ifCond .lt 33, 3) := by decide +kernel
theorem dX8_laysCode_91 : decode cX8_laysCode 91 = .ok (.iload 5, 2) := by decide +kernel
theorem dX8_laysCode_93 : decode cX8_laysCode 93 = .ok (.ifCond .eq 28, 3) := by decide +kernel
theorem dX8_laysCode_96 : decode cX8_laysCode 96 = .ok (.aload_n 0, 1) := by decide +kernel
theorem dX8_laysCode_97 : decode cX8_laysCode 97 = .ok (.getfield 7, 3) := by decide +kernel
theorem dX8_laysCode_100 : decode cX8_laysCode 100 = .ok (.iload_n 1, 1) := by decide +kernel
theorem dX8_laysCode_101 : decode cX8_laysCode 101 = .ok (.iload 6, 2) := by decide +kernel
theorem dX8_laysCode_103 : decode cX8_laysCode 103 = .ok (.iadd, 1) := by decide +kernel
theorem dX8_laysCode_104 : decode cX8_laysCode 104 = .ok (.iload_n 3, 1) := by decide +kernel
theorem dX8_laysCode_105 : decode cX8_laysCode 105 = .ok (.iconst 5, 1) := by decide +kernel
theorem dX8_laysCode_106 : decode cX8_laysCode 106 = .ok (.irem, 1) := by decide +kernel
theorem dX8_laysCode_107 : decode cX8_laysCode 107 = .ok (.iload 6, 2) := by decide +kernel
theorem dX8_laysCode_109 : decode cX8_laysCode 109 = .ok (.isub, 1) := by decide +kernel
theorem dX8_laysCode_110 : decode cX8_laysCode 110 = .ok (.iastore, 1) := by decide +kernel
theorem dX8_laysCode_111 : decode cX8_laysCode 111 = .ok (.iload_n 3, 1) := by decide +kernel
theorem dX8_laysCode_112 : decode cX8_laysCode 112 = .ok (.iconst 5, 1) := by decide +kernel
theorem dX8_laysCode_113 : decode cX8_laysCode 113 = .ok (.idiv, 1) := by decide +kernel
theorem dX8_laysCode_114 : decode cX8_laysCode 114 = .ok (.istore_n 3, 1) := by decide +kernel
theorem dX8_laysCode_115 : decode cX8_laysCode 115 = .ok (.iinc 6 (-1), 3) := by decide +kernel
theorem dX8_laysCode_118 : decode cX8_laysCode 118 = .ok (.goto (-32), 3) := by decide +kernel
theorem dX8_laysCode_121 : decode cX8_laysCode 121 = .ok (.iload 5, 2) := by decide +kernel
theorem dX8_laysCode_123 : decode cX8_laysCode 123 = .ok (.ireturn, 1) := by decide +kernel
theorem dX8_codes_0 : decode cX8_codes 0 = .ok (.iconst 1, 1) := by decide +kernel
theorem dX8_codes_1 : decode cX8_codes 1 = .ok (.istore_n 1, 1) := by decide +kernel
theorem dX8_codes_2 : decode cX8_codes 2 = .ok (.iconst 0, 1) := by decide +kernel
theorem dX8_codes_3 : decode cX8_codes 3 = .ok (.istore_n 2, 1) := by decide +kernel
theorem dX8_codes_4 : decode cX8_codes 4 = .ok (.iload_n 2, 1) := by decide +kernel
theorem dX8_codes_5 : decode cX8_codes 5 = .ok (.aload_n 0, 1) := by decide +kernel
theorem dX8_codes_6 : decode cX8_codes 6 = .ok (.getfield 167, 3) := by decide +kernel
theorem dX8_codes_9 : decode cX8_codes 9 = .ok (.if_icmp .ge 13, 3) := by decide +kernel
theorem dX8_codes_12 : decode cX8_codes 12 = .ok (.iload_n 1, 1) := by decide +kernel
theorem dX8_codes_13 : decode cX8_codes 13 = .ok (.iconst 5, 1) := by decide +kernel
theorem dX8_codes_14 : decode cX8_codes 14 = .ok (.imul, 1) := by decide +kernel
theorem dX8_codes_15 : decode cX8_codes 15 = .ok (.istore_n 1, 1) := by decide +kernel
theorem dX8_codes_16 : decode cX8_codes 16 = .ok (.iinc 2 1, 3) := by decide +kernel
theorem dX8_codes_19 : decode cX8_codes 19 = .ok (.goto (-15), 3) := by decide +kernel
theorem dX8_codes_22 : decode cX8_codes 22 = .ok (.iload_n 1, 1) := by decide +kernel
theorem dX8_codes_23 : decode cX8_codes 23 = .ok (.ireturn, 1) := by decide +kernel
theorem dX8_rule_0 : decode cX8_rule 0 = .ok (.iload_n 1, 1) := by decide +kernel
theorem dX8_rule_1 : decode cX8_rule 1 = .ok (.tableswitch 93 0 6 #[43, 48, 53, 58, 66, 73, 80], 43) := by decide +kernel
theorem dX8_rule_44 : decode cX8_rule 44 = .ok (.aload_n 0, 1) := by decide +kernel
theorem dX8_rule_45 : decode cX8_rule 45 = .ok (.getfield 164, 3) := by decide +kernel
theorem dX8_rule_48 : decode cX8_rule 48 = .ok (.ireturn, 1) := by decide +kernel
theorem dX8_rule_49 : decode cX8_rule 49 = .ok (.aload_n 0, 1) := by decide +kernel
theorem dX8_rule_50 : decode cX8_rule 50 = .ok (.getfield 167, 3) := by decide +kernel
theorem dX8_rule_53 : decode cX8_rule 53 = .ok (.ireturn, 1) := by decide +kernel
theorem dX8_rule_54 : decode cX8_rule 54 = .ok (.aload_n 0, 1) := by decide +kernel
theorem dX8_rule_55 : decode cX8_rule 55 = .ok (.invokevirtual 176, 3) := by decide +kernel
theorem dX8_rule_58 : decode cX8_rule 58 = .ok (.ireturn, 1) := by decide +kernel
theorem dX8_rule_59 : decode cX8_rule 59 = .ok (.aload_n 0, 1) := by decide +kernel
theorem dX8_rule_60 : decode cX8_rule 60 = .ok (.getfield 7, 3) := by decide +kernel
theorem dX8_rule_63 : decode cX8_rule 63 = .ok (.bipush 31, 2) := by decide +kernel
theorem dX8_rule_65 : decode cX8_rule 65 = .ok (.iaload, 1) := by decide +kernel
theorem dX8_rule_66 : decode cX8_rule 66 = .ok (.ireturn, 1) := by decide +kernel
theorem dX8_rule_67 : decode cX8_rule 67 = .ok (.aload_n 0, 1) := by decide +kernel
theorem dX8_rule_68 : decode cX8_rule 68 = .ok (.bipush 20, 2) := by decide +kernel
theorem dX8_rule_70 : decode cX8_rule 70 = .ok (.invokevirtual 179, 3) := by decide +kernel
theorem dX8_rule_73 : decode cX8_rule 73 = .ok (.ireturn, 1) := by decide +kernel
theorem dX8_rule_74 : decode cX8_rule 74 = .ok (.aload_n 0, 1) := by decide +kernel
theorem dX8_rule_75 : decode cX8_rule 75 = .ok (.bipush 25, 2) := by decide +kernel
theorem dX8_rule_77 : decode cX8_rule 77 = .ok (.invokevirtual 179, 3) := by decide +kernel
theorem dX8_rule_80 : decode cX8_rule 80 = .ok (.ireturn, 1) := by decide +kernel
theorem dX8_rule_81 : decode cX8_rule 81 = .ok (.aload_n 0, 1) := by decide +kernel
theorem dX8_rule_82 : decode cX8_rule 82 = .ok (.iconst 1, 1) := by decide +kernel
theorem dX8_rule_83 : decode cX8_rule 83 = .ok (.aload_n 0, 1) := by decide +kernel
theorem dX8_rule_84 : decode cX8_rule 84 = .ok (.getfield 167, 3) := by decide +kernel
theorem dX8_rule_87 : decode cX8_rule 87 = .ok (.ishl, 1) := by decide +kernel
theorem dX8_rule_88 : decode cX8_rule 88 = .ok (.iconst 1, 1) := by decide +kernel
theorem dX8_rule_89 : decode cX8_rule 89 = .ok (.isub, 1) := by decide +kernel
theorem dX8_rule_90 : decode cX8_rule 90 = .ok (.invokevirtual 182, 3) := by decide +kernel
theorem dX8_rule_93 : decode cX8_rule 93 = .ok (.ireturn, 1) := by decide +kernel
theorem dX8_rule_94 : decode cX8_rule 94 = .ok (.iconst (-1), 1) := by decide +kernel
theorem dX8_rule_95 : decode cX8_rule 95 = .ok (.ireturn, 1) := by decide +kernel
theorem dX8_house_0 : decode cX8_house 0 = .ok (.iload_n 1, 1) := by decide +kernel
theorem dX8_house_1 : decode cX8_house 1 = .ok (.i2l, 1) := by decide +kernel
theorem dX8_house_2 : decode cX8_house 2 = .ok (.lconst 1, 1) := by decide +kernel
theorem dX8_house_3 : decode cX8_house 3 = .ok (.aload_n 0, 1) := by decide +kernel
theorem dX8_house_4 : decode cX8_house 4 = .ok (.getfield 164, 3) := by decide +kernel
theorem dX8_house_7 : decode cX8_house 7 = .ok (.i2l, 1) := by decide +kernel
theorem dX8_house_8 : decode cX8_house 8 = .ok (.invokestatic 70, 3) := by decide +kernel
theorem dX8_house_11 : decode cX8_house 11 = .ok (.ifCond .eq 13, 3) := by decide +kernel
theorem dX8_house_14 : decode cX8_house 14 = .ok (.iload_n 2, 1) := by decide +kernel
theorem dX8_house_15 : decode cX8_house 15 = .ok (.i2l, 1) := by decide +kernel
theorem dX8_house_16 : decode cX8_house 16 = .ok (.lconst 0, 1) := by decide +kernel
theorem dX8_house_17 : decode cX8_house 17 = .ok (.lconst 1, 1) := by decide +kernel
theorem dX8_house_18 : decode cX8_house 18 = .ok (.invokestatic 70, 3) := by decide +kernel
theorem dX8_house_21 : decode cX8_house 21 = .ok (.ifCond .ne 7, 3) := by decide +kernel
theorem dX8_house_24 : decode cX8_house 24 = .ok (.iconst (-1), 1) := by decide +kernel
theorem dX8_house_25 : decode cX8_house 25 = .ok (.goto 26, 3) := by decide +kernel
theorem dX8_house_28 : decode cX8_house 28 = .ok (.iload_n 2, 1) := by decide +kernel
theorem dX8_house_29 : decode cX8_house 29 = .ok (.ifCond .ne 14, 3) := by decide +kernel
theorem dX8_house_32 : decode cX8_house 32 = .ok (.aload_n 0, 1) := by decide +kernel
theorem dX8_house_33 : decode cX8_house 33 = .ok (.getfield 13, 3) := by decide +kernel
theorem dX8_house_36 : decode cX8_house 36 = .ok (.iload_n 1, 1) := by decide +kernel
theorem dX8_house_37 : decode cX8_house 37 = .ok (.iconst 1, 1) := by decide +kernel
theorem dX8_house_38 : decode cX8_house 38 = .ok (.isub, 1) := by decide +kernel
theorem dX8_house_39 : decode cX8_house 39 = .ok (.iaload, 1) := by decide +kernel
theorem dX8_house_40 : decode cX8_house 40 = .ok (.goto 11, 3) := by decide +kernel
theorem dX8_house_43 : decode cX8_house 43 = .ok (.aload_n 0, 1) := by decide +kernel
theorem dX8_house_44 : decode cX8_house 44 = .ok (.getfield 16, 3) := by decide +kernel
theorem dX8_house_47 : decode cX8_house 47 = .ok (.iload_n 1, 1) := by decide +kernel
theorem dX8_house_48 : decode cX8_house 48 = .ok (.iconst 1, 1) := by decide +kernel
theorem dX8_house_49 : decode cX8_house 49 = .ok (.isub, 1) := by decide +kernel
theorem dX8_house_50 : decode cX8_house 50 = .ok (.iaload, 1) := by decide +kernel
theorem dX8_house_51 : decode cX8_house 51 = .ok (.ireturn, 1) := by decide +kernel
theorem dX8_order_0 : decode cX8_order 0 = .ok (.aload_n 0, 1) := by decide +kernel
theorem dX8_order_1 : decode cX8_order 1 = .ok (.iload_n 1, 1) := by decide +kernel
theorem dX8_order_2 : decode cX8_order 2 = .ok (.invokevirtual 185, 3) := by decide +kernel
theorem dX8_order_5 : decode cX8_order 5 = .ok (.ifCond .ne 5, 3) := by decide +kernel
theorem dX8_order_8 : decode cX8_order 8 = .ok (.iconst (-1), 1) := by decide +kernel
theorem dX8_order_9 : decode cX8_order 9 = .ok (.ireturn, 1) := by decide +kernel
theorem dX8_order_10 : decode cX8_order 10 = .ok (.iload_n 2, 1) := by decide +kernel
theorem dX8_order_11 : decode cX8_order 11 = .ok (.tableswitch 100 0 6 #[41, 48, 55, 64, 74, 84, 92], 41) := by decide +kernel
theorem dX8_order_52 : decode cX8_order 52 = .ok (.aload_n 0, 1) := by decide +kernel
theorem dX8_order_53 : decode cX8_order 53 = .ok (.getfield 7, 3) := by decide +kernel
theorem dX8_order_56 : decode cX8_order 56 = .ok (.iload_n 1, 1) := by decide +kernel
theorem dX8_order_57 : decode cX8_order 57 = .ok (.iaload, 1) := by decide +kernel
theorem dX8_order_58 : decode cX8_order 58 = .ok (.ireturn, 1) := by decide +kernel
theorem dX8_order_59 : decode cX8_order 59 = .ok (.aload_n 0, 1) := by decide +kernel
theorem dX8_order_60 : decode cX8_order 60 = .ok (.getfield 19, 3) := by decide +kernel
theorem dX8_order_63 : decode cX8_order 63 = .ok (.iload_n 1, 1) := by decide +kernel
theorem dX8_order_64 : decode cX8_order 64 = .ok (.iaload, 1) := by decide +kernel
theorem dX8_order_65 : decode cX8_order 65 = .ok (.ireturn, 1) := by decide +kernel
theorem dX8_order_66 : decode cX8_order 66 = .ok (.aload_n 0, 1) := by decide +kernel
theorem dX8_order_67 : decode cX8_order 67 = .ok (.getfield 7, 3) := by decide +kernel
theorem dX8_order_70 : decode cX8_order 70 = .ok (.iconst 5, 1) := by decide +kernel
theorem dX8_order_71 : decode cX8_order 71 = .ok (.iload_n 1, 1) := by decide +kernel
theorem dX8_order_72 : decode cX8_order 72 = .ok (.iadd, 1) := by decide +kernel
theorem dX8_order_73 : decode cX8_order 73 = .ok (.iaload, 1) := by decide +kernel
theorem dX8_order_74 : decode cX8_order 74 = .ok (.ireturn, 1) := by decide +kernel
theorem dX8_order_75 : decode cX8_order 75 = .ok (.aload_n 0, 1) := by decide +kernel
theorem dX8_order_76 : decode cX8_order 76 = .ok (.getfield 7, 3) := by decide +kernel
theorem dX8_order_79 : decode cX8_order 79 = .ok (.bipush 10, 2) := by decide +kernel
theorem dX8_order_81 : decode cX8_order 81 = .ok (.iload_n 1, 1) := by decide +kernel
theorem dX8_order_82 : decode cX8_order 82 = .ok (.iadd, 1) := by decide +kernel
theorem dX8_order_83 : decode cX8_order 83 = .ok (.iaload, 1) := by decide +kernel
theorem dX8_order_84 : decode cX8_order 84 = .ok (.ireturn, 1) := by decide +kernel
theorem dX8_order_85 : decode cX8_order 85 = .ok (.aload_n 0, 1) := by decide +kernel
theorem dX8_order_86 : decode cX8_order 86 = .ok (.getfield 7, 3) := by decide +kernel
theorem dX8_order_89 : decode cX8_order 89 = .ok (.bipush 15, 2) := by decide +kernel
theorem dX8_order_91 : decode cX8_order 91 = .ok (.iload_n 1, 1) := by decide +kernel
theorem dX8_order_92 : decode cX8_order 92 = .ok (.iadd, 1) := by decide +kernel
theorem dX8_order_93 : decode cX8_order 93 = .ok (.iaload, 1) := by decide +kernel
theorem dX8_order_94 : decode cX8_order 94 = .ok (.ireturn, 1) := by decide +kernel
theorem dX8_order_95 : decode cX8_order 95 = .ok (.aload_n 0, 1) := by decide +kernel
theorem dX8_order_96 : decode cX8_order 96 = .ok (.bipush 20, 2) := by decide +kernel
theorem dX8_order_98 : decode cX8_order 98 = .ok (.iload_n 1, 1) := by decide +kernel
theorem dX8_order_99 : decode cX8_order 99 = .ok (.invokevirtual 189, 3) := by decide +kernel
theorem dX8_order_102 : decode cX8_order 102 = .ok (.ireturn, 1) := by decide +kernel
theorem dX8_order_103 : decode cX8_order 103 = .ok (.aload_n 0, 1) := by decide +kernel
theorem dX8_order_104 : decode cX8_order 104 = .ok (.bipush 25, 2) := by decide +kernel
theorem dX8_order_106 : decode cX8_order 106 = .ok (.iload_n 1, 1) := by decide +kernel
theorem dX8_order_107 : decode cX8_order 107 = .ok (.invokevirtual 189, 3) := by decide +kernel
theorem dX8_order_110 : decode cX8_order 110 = .ok (.ireturn, 1) := by decide +kernel
theorem dX8_order_111 : decode cX8_order 111 = .ok (.iconst (-1), 1) := by decide +kernel
theorem dX8_order_112 : decode cX8_order 112 = .ok (.ireturn, 1) := by decide +kernel
theorem dX8_puts_0 : decode cX8_puts 0 = .ok (.iload_n 1, 1) := by decide +kernel
theorem dX8_puts_1 : decode cX8_puts 1 = .ok (.ifCond .ne 5, 3) := by decide +kernel
theorem dX8_puts_4 : decode cX8_puts 4 = .ok (.iconst (-1), 1) := by decide +kernel
theorem dX8_puts_5 : decode cX8_puts 5 = .ok (.ireturn, 1) := by decide +kernel
theorem dX8_puts_6 : decode cX8_puts 6 = .ok (.aload_n 0, 1) := by decide +kernel
theorem dX8_puts_7 : decode cX8_puts 7 = .ok (.getfield 7, 3) := by decide +kernel
theorem dX8_puts_10 : decode cX8_puts 10 = .ok (.iload_n 2, 1) := by decide +kernel
theorem dX8_puts_11 : decode cX8_puts 11 = .ok (.iaload, 1) := by decide +kernel
theorem dX8_puts_12 : decode cX8_puts 12 = .ok (.iload 4, 2) := by decide +kernel
theorem dX8_puts_14 : decode cX8_puts 14 = .ok (.iadd, 1) := by decide +kernel
theorem dX8_puts_15 : decode cX8_puts 15 = .ok (.istore 5, 2) := by decide +kernel
theorem dX8_puts_17 : decode cX8_puts 17 = .ok (.aload_n 0, 1) := by decide +kernel
theorem dX8_puts_18 : decode cX8_puts 18 = .ok (.getfield 7, 3) := by decide +kernel
theorem dX8_puts_21 : decode cX8_puts 21 = .ok (.iload_n 2, 1) := by decide +kernel
theorem dX8_puts_22 : decode cX8_puts 22 = .ok (.iload_n 3, 1) := by decide +kernel
theorem dX8_puts_23 : decode cX8_puts 23 = .ok (.iload 4, 2) := by decide +kernel
theorem dX8_puts_25 : decode cX8_puts 25 = .ok (.isub, 1) := by decide +kernel
theorem dX8_puts_26 : decode cX8_puts 26 = .ok (.iastore, 1) := by decide +kernel
theorem dX8_puts_27 : decode cX8_puts 27 = .ok (.iload 5, 2) := by decide +kernel
theorem dX8_puts_29 : decode cX8_puts 29 = .ok (.ireturn, 1) := by decide +kernel
theorem dX8_set_0 : decode cX8_set 0 = .ok (.iload_n 1, 1) := by decide +kernel
theorem dX8_set_1 : decode cX8_set 1 = .ok (.ifCond .ne 24, 3) := by decide +kernel
theorem dX8_set_4 : decode cX8_set 4 = .ok (.aload_n 0, 1) := by decide +kernel
theorem dX8_set_5 : decode cX8_set 5 = .ok (.iload_n 2, 1) := by decide +kernel
theorem dX8_set_6 : decode cX8_set 6 = .ok (.i2l, 1) := by decide +kernel
theorem dX8_set_7 : decode cX8_set 7 = .ok (.lconst 0, 1) := by decide +kernel
theorem dX8_set_8 : decode cX8_set 8 = .ok (.ldc2_w 192, 3) := by decide +kernel
theorem dX8_set_11 : decode cX8_set 11 = .ok (.invokestatic 70, 3) := by decide +kernel
theorem dX8_set_14 : decode cX8_set 14 = .ok (.bipush 30, 2) := by decide +kernel
theorem dX8_set_16 : decode cX8_set 16 = .ok (.iload_n 2, 1) := by decide +kernel
theorem dX8_set_17 : decode cX8_set 17 = .ok (.bipush 10, 2) := by decide +kernel
theorem dX8_set_19 : decode cX8_set 19 = .ok (.invokevirtual 194, 3) := by decide +kernel
theorem dX8_set_22 : decode cX8_set 22 = .ok (.goto 33, 3) := by decide +kernel
theorem dX8_set_25 : decode cX8_set 25 = .ok (.aload_n 0, 1) := by decide +kernel
theorem dX8_set_26 : decode cX8_set 26 = .ok (.iload_n 1, 1) := by decide +kernel
theorem dX8_set_27 : decode cX8_set 27 = .ok (.iconst 1, 1) := by decide +kernel
theorem dX8_set_28 : decode cX8_set 28 = .ok (.if_icmp .ne 19, 3) := by decide +kernel
theorem dX8_set_31 : decode cX8_set 31 = .ok (.iload_n 2, 1) := by decide +kernel
theorem dX8_set_32 : decode cX8_set 32 = .ok (.i2l, 1) := by decide +kernel
theorem dX8_set_33 : decode cX8_set 33 = .ok (.lconst 0, 1) := by decide +kernel
theorem dX8_set_34 : decode cX8_set 34 = .ok (.ldc2_w 192, 3) := by decide +kernel
theorem dX8_set_37 : decode cX8_set 37 = .ok (.invokestatic 70, 3) := by decide +kernel
theorem dX8_set_40 : decode cX8_set 40 = .ok (.ifCond .eq 7, 3) := by decide +kernel
theorem dX8_set_43 : decode cX8_set 43 = .ok (.iconst 1, 1) := by decide +kernel
theorem dX8_set_44 : decode cX8_set 44 = .ok (.goto 4, 3) := by decide +kernel
theorem dX8_set_47 : decode cX8_set 47 = .ok (.iconst 0, 1) := by decide +kernel
theorem dX8_set_48 : decode cX8_set 48 = .ok (.bipush 31, 2) := by decide +kernel
theorem dX8_set_50 : decode cX8_set 50 = .ok (.iload_n 2, 1) := by decide +kernel
theorem dX8_set_51 : decode cX8_set 51 = .ok (.iconst 0, 1) := by decide +kernel
theorem dX8_set_52 : decode cX8_set 52 = .ok (.invokevirtual 194, 3) := by decide +kernel
theorem dX8_set_55 : decode cX8_set 55 = .ok (.ireturn, 1) := by decide +kernel
theorem dX8_changes_0 : decode cX8_changes 0 = .ok (.aload_n 0, 1) := by decide +kernel
theorem dX8_changes_1 : decode cX8_changes 1 = .ok (.iload_n 2, 1) := by decide +kernel
theorem dX8_changes_2 : decode cX8_changes 2 = .ok (.invokevirtual 185, 3) := by decide +kernel
theorem dX8_changes_5 : decode cX8_changes 5 = .ok (.ifCond .eq 11, 3) := by decide +kernel
theorem dX8_changes_8 : decode cX8_changes 8 = .ok (.aload_n 0, 1) := by decide +kernel
theorem dX8_changes_9 : decode cX8_changes 9 = .ok (.iload_n 3, 1) := by decide +kernel
theorem dX8_changes_10 : decode cX8_changes 10 = .ok (.invokevirtual 185, 3) := by decide +kernel
theorem dX8_changes_13 : decode cX8_changes 13 = .ok (.ifCond .ne 5, 3) := by decide +kernel
theorem dX8_changes_16 : decode cX8_changes 16 = .ok (.iconst (-1), 1) := by decide +kernel
theorem dX8_changes_17 : decode cX8_changes 17 = .ok (.ireturn, 1) := by decide +kernel
theorem dX8_changes_18 : decode cX8_changes 18 = .ok (.aload_n 0, 1) := by decide +kernel
theorem dX8_changes_19 : decode cX8_changes 19 = .ok (.iload_n 1, 1) := by decide +kernel
theorem dX8_changes_20 : decode cX8_changes 20 = .ok (.iload_n 2, 1) := by decide +kernel
theorem dX8_changes_21 : decode cX8_changes 21 = .ok (.invokevirtual 189, 3) := by decide +kernel
theorem dX8_changes_24 : decode cX8_changes 24 = .ok (.istore 4, 2) := by decide +kernel
theorem dX8_changes_26 : decode cX8_changes 26 = .ok (.aload_n 0, 1) := by decide +kernel
theorem dX8_changes_27 : decode cX8_changes 27 = .ok (.iload_n 1, 1) := by decide +kernel
theorem dX8_changes_28 : decode cX8_changes 28 = .ok (.iload_n 3, 1) := by decide +kernel
theorem dX8_changes_29 : decode cX8_changes 29 = .ok (.invokevirtual 189, 3) := by decide +kernel
theorem dX8_changes_32 : decode cX8_changes 32 = .ok (.istore 5, 2) := by decide +kernel
theorem dX8_changes_34 : decode cX8_changes 34 = .ok (.aload_n 0, 1) := by decide +kernel
theorem dX8_changes_35 : decode cX8_changes 35 = .ok (.getfield 7, 3) := by decide +kernel
theorem dX8_changes_38 : decode cX8_changes 38 = .ok (.iload_n 1, 1) := by decide +kernel
theorem dX8_changes_39 : decode cX8_changes 39 = .ok (.iload 4, 2) := by decide +kernel
theorem dX8_changes_41 : decode cX8_changes 41 = .ok (.iadd, 1) := by decide +kernel
theorem dX8_changes_42 : decode cX8_changes 42 = .ok (.iload_n 3, 1) := by decide +kernel
theorem dX8_changes_43 : decode cX8_changes 43 = .ok (.iload 4, 2) := by decide +kernel
theorem dX8_changes_45 : decode cX8_changes 45 = .ok (.isub, 1) := by decide +kernel
theorem dX8_changes_46 : decode cX8_changes 46 = .ok (.iastore, 1) := by decide +kernel
theorem dX8_changes_47 : decode cX8_changes 47 = .ok (.aload_n 0, 1) := by decide +kernel
theorem dX8_changes_48 : decode cX8_changes 48 = .ok (.getfield 7, 3) := by decide +kernel
theorem dX8_changes_51 : decode cX8_changes 51 = .ok (.iload_n 1, 1) := by decide +kernel
theorem dX8_changes_52 : decode cX8_changes 52 = .ok (.iload 5, 2) := by decide +kernel
theorem dX8_changes_54 : decode cX8_changes 54 = .ok (.iadd, 1) := by decide +kernel
theorem dX8_changes_55 : decode cX8_changes 55 = .ok (.iload_n 2, 1) := by decide +kernel
theorem dX8_changes_56 : decode cX8_changes 56 = .ok (.iload 5, 2) := by decide +kernel
theorem dX8_changes_58 : decode cX8_changes 58 = .ok (.isub, 1) := by decide +kernel
theorem dX8_changes_59 : decode cX8_changes 59 = .ok (.iastore, 1) := by decide +kernel
theorem dX8_changes_60 : decode cX8_changes 60 = .ok (.aload_n 0, 1) := by decide +kernel
theorem dX8_changes_61 : decode cX8_changes 61 = .ok (.iload_n 1, 1) := by decide +kernel
theorem dX8_changes_62 : decode cX8_changes 62 = .ok (.invokevirtual 179, 3) := by decide +kernel
theorem dX8_changes_65 : decode cX8_changes 65 = .ok (.ireturn, 1) := by decide +kernel
theorem dX8_pack_0 : decode cX8_pack 0 = .ok (.aload_n 0, 1) := by decide +kernel
theorem dX8_pack_1 : decode cX8_pack 1 = .ok (.bipush 20, 2) := by decide +kernel
theorem dX8_pack_3 : decode cX8_pack 3 = .ok (.iload_n 1, 1) := by decide +kernel
theorem dX8_pack_4 : decode cX8_pack 4 = .ok (.iload_n 2, 1) := by decide +kernel
theorem dX8_pack_5 : decode cX8_pack 5 = .ok (.invokevirtual 198, 3) := by decide +kernel
theorem dX8_pack_8 : decode cX8_pack 8 = .ok (.ireturn, 1) := by decide +kernel
theorem dX8_swap_0 : decode cX8_swap 0 = .ok (.aload_n 0, 1) := by decide +kernel
theorem dX8_swap_1 : decode cX8_swap 1 = .ok (.bipush 25, 2) := by decide +kernel
theorem dX8_swap_3 : decode cX8_swap 3 = .ok (.iload_n 1, 1) := by decide +kernel
theorem dX8_swap_4 : decode cX8_swap 4 = .ok (.iload_n 2, 1) := by decide +kernel
theorem dX8_swap_5 : decode cX8_swap 5 = .ok (.invokevirtual 198, 3) := by decide +kernel
theorem dX8_swap_8 : decode cX8_swap 8 = .ok (.ireturn, 1) := by decide +kernel
theorem dX8_comesFirst_0 : decode cX8_comesFirst 0 = .ok (.aload_n 0, 1) := by decide +kernel
theorem dX8_comesFirst_1 : decode cX8_comesFirst 1 = .ok (.iload_n 1, 1) := by decide +kernel
theorem dX8_comesFirst_2 : decode cX8_comesFirst 2 = .ok (.iload_n 2, 1) := by decide +kernel
theorem dX8_comesFirst_3 : decode cX8_comesFirst 3 = .ok (.invokevirtual 189, 3) := by decide +kernel
theorem dX8_comesFirst_6 : decode cX8_comesFirst 6 = .ok (.istore_n 3, 1) := by decide +kernel
theorem dX8_comesFirst_7 : decode cX8_comesFirst 7 = .ok (.iload_n 3, 1) := by decide +kernel
theorem dX8_comesFirst_8 : decode cX8_comesFirst 8 = .ok (.ifCond .le 27, 3) := by decide +kernel
theorem dX8_comesFirst_11 : decode cX8_comesFirst 11 = .ok (.aload_n 0, 1) := by decide +kernel
theorem dX8_comesFirst_12 : decode cX8_comesFirst 12 = .ok (.getfield 7, 3) := by decide +kernel
theorem dX8_comesFirst_15 : decode cX8_comesFirst 15 = .ok (.iload_n 1, 1) := by decide +kernel
theorem dX8_comesFirst_16 : decode cX8_comesFirst 16 = .ok (.iload_n 3, 1) := by decide +kernel
theorem dX8_comesFirst_17 : decode cX8_comesFirst 17 = .ok (.iadd, 1) := by decide +kernel
theorem dX8_comesFirst_18 : decode cX8_comesFirst 18 = .ok (.aload_n 0, 1) := by decide +kernel
theorem dX8_comesFirst_19 : decode cX8_comesFirst 19 = .ok (.iload_n 1, 1) := by decide +kernel
theorem dX8_comesFirst_20 : decode cX8_comesFirst 20 = .ok (.iload_n 3, 1) := by decide +kernel
theorem dX8_comesFirst_21 : decode cX8_comesFirst 21 = .ok (.iconst 1, 1) := by decide +kernel
theorem dX8_comesFirst_22 : decode cX8_comesFirst 22 = .ok (.isub, 1) := by decide +kernel
theorem dX8_comesFirst_23 : decode cX8_comesFirst 23 = .ok (.invokevirtual 173, 3) := by decide +kernel
theorem dX8_comesFirst_26 : decode cX8_comesFirst 26 = .ok (.iload_n 3, 1) := by decide +kernel
theorem dX8_comesFirst_27 : decode cX8_comesFirst 27 = .ok (.isub, 1) := by decide +kernel
theorem dX8_comesFirst_28 : decode cX8_comesFirst 28 = .ok (.iastore, 1) := by decide +kernel
theorem dX8_comesFirst_29 : decode cX8_comesFirst 29 = .ok (.iinc 3 (-1), 3) := by decide +kernel
theorem dX8_comesFirst_32 : decode cX8_comesFirst 32 = .ok (.goto (-25), 3) := by decide +kernel
theorem dX8_comesFirst_35 : decode cX8_comesFirst 35 = .ok (.aload_n 0, 1) := by decide +kernel
theorem dX8_comesFirst_36 : decode cX8_comesFirst 36 = .ok (.getfield 7, 3) := by decide +kernel
theorem dX8_comesFirst_39 : decode cX8_comesFirst 39 = .ok (.iload_n 1, 1) := by decide +kernel
theorem dX8_comesFirst_40 : decode cX8_comesFirst 40 = .ok (.iload_n 2, 1) := by decide +kernel
theorem dX8_comesFirst_41 : decode cX8_comesFirst 41 = .ok (.iastore, 1) := by decide +kernel
theorem dX8_comesFirst_42 : decode cX8_comesFirst 42 = .ok (.return_, 1) := by decide +kernel
theorem dX8_top_0 : decode cX8_top 0 = .ok (.aload_n 0, 1) := by decide +kernel
theorem dX8_top_1 : decode cX8_top 1 = .ok (.iload_n 1, 1) := by decide +kernel
theorem dX8_top_2 : decode cX8_top 2 = .ok (.invokevirtual 185, 3) := by decide +kernel
theorem dX8_top_5 : decode cX8_top 5 = .ok (.ifCond .ne 5, 3) := by decide +kernel
theorem dX8_top_8 : decode cX8_top 8 = .ok (.iconst (-1), 1) := by decide +kernel
theorem dX8_top_9 : decode cX8_top 9 = .ok (.ireturn, 1) := by decide +kernel
theorem dX8_top_10 : decode cX8_top 10 = .ok (.aload_n 0, 1) := by decide +kernel
theorem dX8_top_11 : decode cX8_top 11 = .ok (.bipush 20, 2) := by decide +kernel
theorem dX8_top_13 : decode cX8_top 13 = .ok (.iload_n 1, 1) := by decide +kernel
theorem dX8_top_14 : decode cX8_top 14 = .ok (.invokevirtual 202, 3) := by decide +kernel
theorem dX8_top_17 : decode cX8_top 17 = .ok (.aload_n 0, 1) := by decide +kernel
theorem dX8_top_18 : decode cX8_top 18 = .ok (.bipush 20, 2) := by decide +kernel
theorem dX8_top_20 : decode cX8_top 20 = .ok (.invokevirtual 179, 3) := by decide +kernel
theorem dX8_top_23 : decode cX8_top 23 = .ok (.ireturn, 1) := by decide +kernel
theorem dX8_first_0 : decode cX8_first 0 = .ok (.aload_n 0, 1) := by decide +kernel
theorem dX8_first_1 : decode cX8_first 1 = .ok (.iload_n 1, 1) := by decide +kernel
theorem dX8_first_2 : decode cX8_first 2 = .ok (.invokevirtual 185, 3) := by decide +kernel
theorem dX8_first_5 : decode cX8_first 5 = .ok (.ifCond .ne 5, 3) := by decide +kernel
theorem dX8_first_8 : decode cX8_first 8 = .ok (.iconst (-1), 1) := by decide +kernel
theorem dX8_first_9 : decode cX8_first 9 = .ok (.ireturn, 1) := by decide +kernel
theorem dX8_first_10 : decode cX8_first 10 = .ok (.aload_n 0, 1) := by decide +kernel
theorem dX8_first_11 : decode cX8_first 11 = .ok (.bipush 25, 2) := by decide +kernel
theorem dX8_first_13 : decode cX8_first 13 = .ok (.iload_n 1, 1) := by decide +kernel
theorem dX8_first_14 : decode cX8_first 14 = .ok (.invokevirtual 202, 3) := by decide +kernel
theorem dX8_first_17 : decode cX8_first 17 = .ok (.aload_n 0, 1) := by decide +kernel
theorem dX8_first_18 : decode cX8_first 18 = .ok (.bipush 25, 2) := by decide +kernel
theorem dX8_first_20 : decode cX8_first 20 = .ok (.invokevirtual 179, 3) := by decide +kernel
theorem dX8_first_23 : decode cX8_first 23 = .ok (.ireturn, 1) := by decide +kernel
theorem dX8_ask_0 : decode cX8_ask 0 = .ok (.iload_n 2, 1) := by decide +kernel
theorem dX8_ask_1 : decode cX8_ask 1 = .ok (.iconst 3, 1) := by decide +kernel
theorem dX8_ask_2 : decode cX8_ask 2 = .ok (.if_icmp .ne 41, 3) := by decide +kernel
theorem dX8_ask_5 : decode cX8_ask 5 = .ok (.aload_n 0, 1) := by decide +kernel
theorem dX8_ask_6 : decode cX8_ask 6 = .ok (.aload_n 0, 1) := by decide +kernel
theorem dX8_ask_7 : decode cX8_ask 7 = .ok (.iload_n 1, 1) := by decide +kernel
theorem dX8_ask_8 : decode cX8_ask 8 = .ok (.invokevirtual 185, 3) := by decide +kernel
theorem dX8_ask_11 : decode cX8_ask 11 = .ok (.ifCond .eq 19, 3) := by decide +kernel
theorem dX8_ask_14 : decode cX8_ask 14 = .ok (.iload_n 3, 1) := by decide +kernel
theorem dX8_ask_15 : decode cX8_ask 15 = .ok (.i2l, 1) := by decide +kernel
theorem dX8_ask_16 : decode cX8_ask 16 = .ok (.lconst 0, 1) := by decide +kernel
theorem dX8_ask_17 : decode cX8_ask 17 = .ok (.ldc2_w 205, 3) := by decide +kernel
theorem dX8_ask_20 : decode cX8_ask 20 = .ok (.invokestatic 70, 3) := by decide +kernel
theorem dX8_ask_23 : decode cX8_ask 23 = .ok (.ifCond .eq 7, 3) := by decide +kernel
theorem dX8_ask_26 : decode cX8_ask 26 = .ok (.iconst 1, 1) := by decide +kernel
theorem dX8_ask_27 : decode cX8_ask 27 = .ok (.goto 4, 3) := by decide +kernel
theorem dX8_ask_30 : decode cX8_ask 30 = .ok (.iconst 0, 1) := by decide +kernel
theorem dX8_ask_31 : decode cX8_ask 31 = .ok (.bipush 10, 2) := by decide +kernel
theorem dX8_ask_33 : decode cX8_ask 33 = .ok (.iload_n 1, 1) := by decide +kernel
theorem dX8_ask_34 : decode cX8_ask 34 = .ok (.iadd, 1) := by decide +kernel
theorem dX8_ask_35 : decode cX8_ask 35 = .ok (.iload_n 3, 1) := by decide +kernel
theorem dX8_ask_36 : decode cX8_ask 36 = .ok (.iconst 0, 1) := by decide +kernel
theorem dX8_ask_37 : decode cX8_ask 37 = .ok (.invokevirtual 194, 3) := by decide +kernel
theorem dX8_ask_40 : decode cX8_ask 40 = .ok (.goto 43, 3) := by decide +kernel
theorem dX8_ask_43 : decode cX8_ask 43 = .ok (.aload_n 0, 1) := by decide +kernel
theorem dX8_ask_44 : decode cX8_ask 44 = .ok (.iload_n 2, 1) := by decide +kernel
theorem dX8_ask_45 : decode cX8_ask 45 = .ok (.iconst 4, 1) := by decide +kernel
theorem dX8_ask_46 : decode cX8_ask 46 = .ok (.if_icmp .ne 27, 3) := by decide +kernel
theorem dX8_ask_49 : decode cX8_ask 49 = .ok (.aload_n 0, 1) := by decide +kernel
theorem dX8_ask_50 : decode cX8_ask 50 = .ok (.iload_n 1, 1) := by decide +kernel
theorem dX8_ask_51 : decode cX8_ask 51 = .ok (.invokevirtual 185, 3) := by decide +kernel
theorem dX8_ask_54 : decode cX8_ask 54 = .ok (.ifCond .eq 19, 3) := by decide +kernel
theorem dX8_ask_57 : decode cX8_ask 57 = .ok (.iload_n 3, 1) := by decide +kernel
theorem dX8_ask_58 : decode cX8_ask 58 = .ok (.i2l, 1) := by decide +kernel
theorem dX8_ask_59 : decode cX8_ask 59 = .ok (.lconst 0, 1) := by decide +kernel
theorem dX8_ask_60 : decode cX8_ask 60 = .ok (.ldc2_w 207, 3) := by decide +kernel
theorem dX8_ask_63 : decode cX8_ask 63 = .ok (.invokestatic 70, 3) := by decide +kernel
theorem dX8_ask_66 : decode cX8_ask 66 = .ok (.ifCond .eq 7, 3) := by decide +kernel
theorem dX8_ask_69 : decode cX8_ask 69 = .ok (.iconst 1, 1) := by decide +kernel
theorem dX8_ask_70 : decode cX8_ask 70 = .ok (.goto 4, 3) := by decide +kernel
theorem dX8_ask_73 : decode cX8_ask 73 = .ok (.iconst 0, 1) := by decide +kernel
theorem dX8_ask_74 : decode cX8_ask 74 = .ok (.bipush 15, 2) := by decide +kernel
theorem dX8_ask_76 : decode cX8_ask 76 = .ok (.iload_n 1, 1) := by decide +kernel
theorem dX8_ask_77 : decode cX8_ask 77 = .ok (.iadd, 1) := by decide +kernel
theorem dX8_ask_78 : decode cX8_ask 78 = .ok (.iload_n 3, 1) := by decide +kernel
theorem dX8_ask_79 : decode cX8_ask 79 = .ok (.iconst 0, 1) := by decide +kernel
theorem dX8_ask_80 : decode cX8_ask 80 = .ok (.invokevirtual 194, 3) := by decide +kernel
theorem dX8_ask_83 : decode cX8_ask 83 = .ok (.ireturn, 1) := by decide +kernel
theorem dX8_turn_0 : decode cX8_turn 0 = .ok (.aload_n 0, 1) := by decide +kernel
theorem dX8_turn_1 : decode cX8_turn 1 = .ok (.aload_n 0, 1) := by decide +kernel
theorem dX8_turn_2 : decode cX8_turn 2 = .ok (.iload_n 1, 1) := by decide +kernel
theorem dX8_turn_3 : decode cX8_turn 3 = .ok (.invokevirtual 185, 3) := by decide +kernel
theorem dX8_turn_6 : decode cX8_turn 6 = .ok (.ifCond .eq 19, 3) := by decide +kernel
theorem dX8_turn_9 : decode cX8_turn 9 = .ok (.iload_n 2, 1) := by decide +kernel
theorem dX8_turn_10 : decode cX8_turn 10 = .ok (.i2l, 1) := by decide +kernel
theorem dX8_turn_11 : decode cX8_turn 11 = .ok (.lconst 0, 1) := by decide +kernel
theorem dX8_turn_12 : decode cX8_turn 12 = .ok (.ldc2_w 129, 3) := by decide +kernel
theorem dX8_turn_15 : decode cX8_turn 15 = .ok (.invokestatic 70, 3) := by decide +kernel
theorem dX8_turn_18 : decode cX8_turn 18 = .ok (.ifCond .eq 7, 3) := by decide +kernel
theorem dX8_turn_21 : decode cX8_turn 21 = .ok (.iconst 1, 1) := by decide +kernel
theorem dX8_turn_22 : decode cX8_turn 22 = .ok (.goto 4, 3) := by decide +kernel
theorem dX8_turn_25 : decode cX8_turn 25 = .ok (.iconst 0, 1) := by decide +kernel
theorem dX8_turn_26 : decode cX8_turn 26 = .ok (.iload_n 1, 1) := by decide +kernel
theorem dX8_turn_27 : decode cX8_turn 27 = .ok (.iload_n 2, 1) := by decide +kernel
theorem dX8_turn_28 : decode cX8_turn 28 = .ok (.iconst 0, 1) := by decide +kernel
theorem dX8_turn_29 : decode cX8_turn 29 = .ok (.invokevirtual 194, 3) := by decide +kernel
theorem dX8_turn_32 : decode cX8_turn 32 = .ok (.ireturn, 1) := by decide +kernel
theorem dX8_weigh_0 : decode cX8_weigh 0 = .ok (.aload_n 0, 1) := by decide +kernel
theorem dX8_weigh_1 : decode cX8_weigh 1 = .ok (.aload_n 0, 1) := by decide +kernel
theorem dX8_weigh_2 : decode cX8_weigh 2 = .ok (.iload_n 1, 1) := by decide +kernel
theorem dX8_weigh_3 : decode cX8_weigh 3 = .ok (.invokevirtual 185, 3) := by decide +kernel
theorem dX8_weigh_6 : decode cX8_weigh 6 = .ok (.ifCond .eq 19, 3) := by decide +kernel
theorem dX8_weigh_9 : decode cX8_weigh 9 = .ok (.iload_n 2, 1) := by decide +kernel
theorem dX8_weigh_10 : decode cX8_weigh 10 = .ok (.i2l, 1) := by decide +kernel
theorem dX8_weigh_11 : decode cX8_weigh 11 = .ok (.lconst 1, 1) := by decide +kernel
theorem dX8_weigh_12 : decode cX8_weigh 12 = .ok (.ldc2_w 205, 3) := by decide +kernel
theorem dX8_weigh_15 : decode cX8_weigh 15 = .ok (.invokestatic 70, 3) := by decide +kernel
theorem dX8_weigh_18 : decode cX8_weigh 18 = .ok (.ifCond .eq 7, 3) := by decide +kernel
theorem dX8_weigh_21 : decode cX8_weigh 21 = .ok (.iconst 1, 1) := by decide +kernel
theorem dX8_weigh_22 : decode cX8_weigh 22 = .ok (.goto 4, 3) := by decide +kernel
theorem dX8_weigh_25 : decode cX8_weigh 25 = .ok (.iconst 0, 1) := by decide +kernel
theorem dX8_weigh_26 : decode cX8_weigh 26 = .ok (.iconst 5, 1) := by decide +kernel
theorem dX8_weigh_27 : decode cX8_weigh 27 = .ok (.iload_n 1, 1) := by decide +kernel
theorem dX8_weigh_28 : decode cX8_weigh 28 = .ok (.iadd, 1) := by decide +kernel
theorem dX8_weigh_29 : decode cX8_weigh 29 = .ok (.iload_n 2, 1) := by decide +kernel
theorem dX8_weigh_30 : decode cX8_weigh 30 = .ok (.iconst 0, 1) := by decide +kernel
theorem dX8_weigh_31 : decode cX8_weigh 31 = .ok (.invokevirtual 194, 3) := by decide +kernel
theorem dX8_weigh_34 : decode cX8_weigh 34 = .ok (.ireturn, 1) := by decide +kernel
theorem dX8_weightOf_0 : decode cX8_weightOf 0 = .ok (.iconst 0, 1) := by decide +kernel
theorem dX8_weightOf_1 : decode cX8_weightOf 1 = .ok (.istore_n 2, 1) := by decide +kernel
theorem dX8_weightOf_2 : decode cX8_weightOf 2 = .ok (.iconst 0, 1) := by decide +kernel
theorem dX8_weightOf_3 : decode cX8_weightOf 3 = .ok (.istore_n 3, 1) := by decide +kernel
theorem dX8_weightOf_4 : decode cX8_weightOf 4 = .ok (.iload_n 3, 1) := by decide +kernel
theorem dX8_weightOf_5 : decode cX8_weightOf 5 = .ok (.aload_n 0, 1) := by decide +kernel
theorem dX8_weightOf_6 : decode cX8_weightOf 6 = .ok (.getfield 167, 3) := by decide +kernel
theorem dX8_weightOf_9 : decode cX8_weightOf 9 = .ok (.if_icmp .ge 33, 3) := by decide +kernel
theorem dX8_weightOf_12 : decode cX8_weightOf 12 = .ok (.iload_n 2, 1) := by decide +kernel
theorem dX8_weightOf_13 : decode cX8_weightOf 13 = .ok (.iload_n 1, 1) := by decide +kernel
theorem dX8_weightOf_14 : decode cX8_weightOf 14 = .ok (.iload_n 3, 1) := by decide +kernel
theorem dX8_weightOf_15 : decode cX8_weightOf 15 = .ok (.ishr, 1) := by decide +kernel
theorem dX8_weightOf_16 : decode cX8_weightOf 16 = .ok (.iconst 1, 1) := by decide +kernel
theorem dX8_weightOf_17 : decode cX8_weightOf 17 = .ok (.iand, 1) := by decide +kernel
theorem dX8_weightOf_18 : decode cX8_weightOf 18 = .ok (.iconst 1, 1) := by decide +kernel
theorem dX8_weightOf_19 : decode cX8_weightOf 19 = .ok (.if_icmp .ne 14, 3) := by decide +kernel
theorem dX8_weightOf_22 : decode cX8_weightOf 22 = .ok (.aload_n 0, 1) := by decide +kernel
theorem dX8_weightOf_23 : decode cX8_weightOf 23 = .ok (.getfield 7, 3) := by decide +kernel
theorem dX8_weightOf_26 : decode cX8_weightOf 26 = .ok (.iconst 5, 1) := by decide +kernel
theorem dX8_weightOf_27 : decode cX8_weightOf 27 = .ok (.iload_n 3, 1) := by decide +kernel
theorem dX8_weightOf_28 : decode cX8_weightOf 28 = .ok (.iadd, 1) := by decide +kernel
theorem dX8_weightOf_29 : decode cX8_weightOf 29 = .ok (.iaload, 1) := by decide +kernel
theorem dX8_weightOf_30 : decode cX8_weightOf 30 = .ok (.goto 4, 3) := by decide +kernel
theorem dX8_weightOf_33 : decode cX8_weightOf 33 = .ok (.iconst 0, 1) := by decide +kernel
theorem dX8_weightOf_34 : decode cX8_weightOf 34 = .ok (.iadd, 1) := by decide +kernel
theorem dX8_weightOf_35 : decode cX8_weightOf 35 = .ok (.istore_n 2, 1) := by decide +kernel
theorem dX8_weightOf_36 : decode cX8_weightOf 36 = .ok (.iinc 3 1, 3) := by decide +kernel
theorem dX8_weightOf_39 : decode cX8_weightOf 39 = .ok (.goto (-35), 3) := by decide +kernel
theorem dX8_weightOf_42 : decode cX8_weightOf 42 = .ok (.iload_n 2, 1) := by decide +kernel
theorem dX8_weightOf_43 : decode cX8_weightOf 43 = .ok (.ireturn, 1) := by decide +kernel
theorem dX8_wayOf_0 : decode cX8_wayOf 0 = .ok (.iconst 0, 1) := by decide +kernel
theorem dX8_wayOf_1 : decode cX8_wayOf 1 = .ok (.istore 4, 2) := by decide +kernel
theorem dX8_wayOf_3 : decode cX8_wayOf 3 = .ok (.iload_n 1, 1) := by decide +kernel
theorem dX8_wayOf_4 : decode cX8_wayOf 4 = .ok (.iconst 1, 1) := by decide +kernel
theorem dX8_wayOf_5 : decode cX8_wayOf 5 = .ok (.iadd, 1) := by decide +kernel
theorem dX8_wayOf_6 : decode cX8_wayOf 6 = .ok (.istore 5, 2) := by decide +kernel
theorem dX8_wayOf_8 : decode cX8_wayOf 8 = .ok (.iload 5, 2) := by decide +kernel
theorem dX8_wayOf_10 : decode cX8_wayOf 10 = .ok (.iload_n 2, 1) := by decide +kernel
theorem dX8_wayOf_11 : decode cX8_wayOf 11 = .ok (.if_icmp .gt 50, 3) := by decide +kernel
theorem dX8_wayOf_14 : decode cX8_wayOf 14 = .ok (.iload 4, 2) := by decide +kernel
theorem dX8_wayOf_16 : decode cX8_wayOf 16 = .ok (.aload_n 0, 1) := by decide +kernel
theorem dX8_wayOf_17 : decode cX8_wayOf 17 = .ok (.getfield 13, 3) := by decide +kernel
theorem dX8_wayOf_20 : decode cX8_wayOf 20 = .ok (.iload 5, 2) := by decide +kernel
theorem dX8_wayOf_22 : decode cX8_wayOf 22 = .ok (.iconst 1, 1) := by decide +kernel
theorem dX8_wayOf_23 : decode cX8_wayOf 23 = .ok (.isub, 1) := by decide +kernel
theorem dX8_wayOf_24 : decode cX8_wayOf 24 = .ok (.iaload, 1) := by decide +kernel
theorem dX8_wayOf_25 : decode cX8_wayOf 25 = .ok (.aload_n 0, 1) := by decide +kernel
theorem dX8_wayOf_26 : decode cX8_wayOf 26 = .ok (.getfield 16, 3) := by decide +kernel
theorem dX8_wayOf_29 : decode cX8_wayOf 29 = .ok (.iload 5, 2) := by decide +kernel
theorem dX8_wayOf_31 : decode cX8_wayOf 31 = .ok (.iconst 1, 1) := by decide +kernel
theorem dX8_wayOf_32 : decode cX8_wayOf 32 = .ok (.isub, 1) := by decide +kernel
theorem dX8_wayOf_33 : decode cX8_wayOf 33 = .ok (.iaload, 1) := by decide +kernel
theorem dX8_wayOf_34 : decode cX8_wayOf 34 = .ok (.iconst 1, 1) := by decide +kernel
theorem dX8_wayOf_35 : decode cX8_wayOf 35 = .ok (.if_icmp .ne 15, 3) := by decide +kernel
theorem dX8_wayOf_38 : decode cX8_wayOf 38 = .ok (.iload_n 3, 1) := by decide +kernel
theorem dX8_wayOf_39 : decode cX8_wayOf 39 = .ok (.aload_n 0, 1) := by decide +kernel
theorem dX8_wayOf_40 : decode cX8_wayOf 40 = .ok (.invokevirtual 176, 3) := by decide +kernel
theorem dX8_wayOf_43 : decode cX8_wayOf 43 = .ok (.if_icmp .le 7, 3) := by decide +kernel
theorem dX8_wayOf_46 : decode cX8_wayOf 46 = .ok (.iconst 2, 1) := by decide +kernel
theorem dX8_wayOf_47 : decode cX8_wayOf 47 = .ok (.goto 4, 3) := by decide +kernel
theorem dX8_wayOf_50 : decode cX8_wayOf 50 = .ok (.iconst 1, 1) := by decide +kernel
theorem dX8_wayOf_51 : decode cX8_wayOf 51 = .ok (.imul, 1) := by decide +kernel
theorem dX8_wayOf_52 : decode cX8_wayOf 52 = .ok (.iadd, 1) := by decide +kernel
theorem dX8_wayOf_53 : decode cX8_wayOf 53 = .ok (.istore 4, 2) := by decide +kernel
theorem dX8_wayOf_55 : decode cX8_wayOf 55 = .ok (.iinc 5 1, 3) := by decide +kernel
theorem dX8_wayOf_58 : decode cX8_wayOf 58 = .ok (.goto (-50), 3) := by decide +kernel
theorem dX8_wayOf_61 : decode cX8_wayOf 61 = .ok (.iload_n 1, 1) := by decide +kernel
theorem dX8_wayOf_62 : decode cX8_wayOf 62 = .ok (.istore 5, 2) := by decide +kernel
theorem dX8_wayOf_64 : decode cX8_wayOf 64 = .ok (.iload 5, 2) := by decide +kernel
theorem dX8_wayOf_66 : decode cX8_wayOf 66 = .ok (.iload_n 2, 1) := by decide +kernel
theorem dX8_wayOf_67 : decode cX8_wayOf 67 = .ok (.if_icmp .le 50, 3) := by decide +kernel
theorem dX8_wayOf_70 : decode cX8_wayOf 70 = .ok (.iload 4, 2) := by decide +kernel
theorem dX8_wayOf_72 : decode cX8_wayOf 72 = .ok (.aload_n 0, 1) := by decide +kernel
theorem dX8_wayOf_73 : decode cX8_wayOf 73 = .ok (.getfield 13, 3) := by decide +kernel
theorem dX8_wayOf_76 : decode cX8_wayOf 76 = .ok (.iload 5, 2) := by decide +kernel
theorem dX8_wayOf_78 : decode cX8_wayOf 78 = .ok (.iconst 1, 1) := by decide +kernel
theorem dX8_wayOf_79 : decode cX8_wayOf 79 = .ok (.isub, 1) := by decide +kernel
theorem dX8_wayOf_80 : decode cX8_wayOf 80 = .ok (.iaload, 1) := by decide +kernel
theorem dX8_wayOf_81 : decode cX8_wayOf 81 = .ok (.aload_n 0, 1) := by decide +kernel
theorem dX8_wayOf_82 : decode cX8_wayOf 82 = .ok (.getfield 16, 3) := by decide +kernel
theorem dX8_wayOf_85 : decode cX8_wayOf 85 = .ok (.iload 5, 2) := by decide +kernel
theorem dX8_wayOf_87 : decode cX8_wayOf 87 = .ok (.iconst 1, 1) := by decide +kernel
theorem dX8_wayOf_88 : decode cX8_wayOf 88 = .ok (.isub, 1) := by decide +kernel
theorem dX8_wayOf_89 : decode cX8_wayOf 89 = .ok (.iaload, 1) := by decide +kernel
theorem dX8_wayOf_90 : decode cX8_wayOf 90 = .ok (.iconst 2, 1) := by decide +kernel
theorem dX8_wayOf_91 : decode cX8_wayOf 91 = .ok (.if_icmp .ne 15, 3) := by decide +kernel
theorem dX8_wayOf_94 : decode cX8_wayOf 94 = .ok (.iload_n 3, 1) := by decide +kernel
theorem dX8_wayOf_95 : decode cX8_wayOf 95 = .ok (.aload_n 0, 1) := by decide +kernel
theorem dX8_wayOf_96 : decode cX8_wayOf 96 = .ok (.invokevirtual 176, 3) := by decide +kernel
theorem dX8_wayOf_99 : decode cX8_wayOf 99 = .ok (.if_icmp .le 7, 3) := by decide +kernel
theorem dX8_wayOf_102 : decode cX8_wayOf 102 = .ok (.iconst 2, 1) := by decide +kernel
theorem dX8_wayOf_103 : decode cX8_wayOf 103 = .ok (.goto 4, 3) := by decide +kernel
theorem dX8_wayOf_106 : decode cX8_wayOf 106 = .ok (.iconst 1, 1) := by decide +kernel
theorem dX8_wayOf_107 : decode cX8_wayOf 107 = .ok (.imul, 1) := by decide +kernel
theorem dX8_wayOf_108 : decode cX8_wayOf 108 = .ok (.iadd, 1) := by decide +kernel
theorem dX8_wayOf_109 : decode cX8_wayOf 109 = .ok (.istore 4, 2) := by decide +kernel
theorem dX8_wayOf_111 : decode cX8_wayOf 111 = .ok (.iinc 5 (-1), 3) := by decide +kernel
theorem dX8_wayOf_114 : decode cX8_wayOf 114 = .ok (.goto (-50), 3) := by decide +kernel
theorem dX8_wayOf_117 : decode cX8_wayOf 117 = .ok (.iload 4, 2) := by decide +kernel
theorem dX8_wayOf_119 : decode cX8_wayOf 119 = .ok (.ireturn, 1) := by decide +kernel
theorem dX8_way_0 : decode cX8_way 0 = .ok (.iload_n 1, 1) := by decide +kernel
theorem dX8_way_1 : decode cX8_way 1 = .ok (.i2l, 1) := by decide +kernel
theorem dX8_way_2 : decode cX8_way 2 = .ok (.lconst 0, 1) := by decide +kernel
theorem dX8_way_3 : decode cX8_way 3 = .ok (.aload_n 0, 1) := by decide +kernel
theorem dX8_way_4 : decode cX8_way 4 = .ok (.getfield 164, 3) := by decide +kernel
theorem dX8_way_7 : decode cX8_way 7 = .ok (.i2l, 1) := by decide +kernel
theorem dX8_way_8 : decode cX8_way 8 = .ok (.invokestatic 70, 3) := by decide +kernel
theorem dX8_way_11 : decode cX8_way 11 = .ok (.ifCond .eq 39, 3) := by decide +kernel
theorem dX8_way_14 : decode cX8_way 14 = .ok (.iload_n 2, 1) := by decide +kernel
theorem dX8_way_15 : decode cX8_way 15 = .ok (.i2l, 1) := by decide +kernel
theorem dX8_way_16 : decode cX8_way 16 = .ok (.lconst 0, 1) := by decide +kernel
theorem dX8_way_17 : decode cX8_way 17 = .ok (.aload_n 0, 1) := by decide +kernel
theorem dX8_way_18 : decode cX8_way 18 = .ok (.getfield 164, 3) := by decide +kernel
theorem dX8_way_21 : decode cX8_way 21 = .ok (.i2l, 1) := by decide +kernel
theorem dX8_way_22 : decode cX8_way 22 = .ok (.invokestatic 70, 3) := by decide +kernel
theorem dX8_way_25 : decode cX8_way 25 = .ok (.ifCond .eq 25, 3) := by decide +kernel
theorem dX8_way_28 : decode cX8_way 28 = .ok (.iload_n 3, 1) := by decide +kernel
theorem dX8_way_29 : decode cX8_way 29 = .ok (.i2l, 1) := by decide +kernel
theorem dX8_way_30 : decode cX8_way 30 = .ok (.lconst 0, 1) := by decide +kernel
theorem dX8_way_31 : decode cX8_way 31 = .ok (.ldc2_w 192, 3) := by decide +kernel
theorem dX8_way_34 : decode cX8_way 34 = .ok (.invokestatic 70, 3) := by decide +kernel
theorem dX8_way_37 : decode cX8_way 37 = .ok (.ifCond .eq 13, 3) := by decide +kernel
theorem dX8_way_40 : decode cX8_way 40 = .ok (.aload_n 0, 1) := by decide +kernel
theorem dX8_way_41 : decode cX8_way 41 = .ok (.iload_n 1, 1) := by decide +kernel
theorem dX8_way_42 : decode cX8_way 42 = .ok (.iload_n 2, 1) := by decide +kernel
theorem dX8_way_43 : decode cX8_way 43 = .ok (.iload_n 3, 1) := by decide +kernel
theorem dX8_way_44 : decode cX8_way 44 = .ok (.invokevirtual 209, 3) := by decide +kernel
theorem dX8_way_47 : decode cX8_way 47 = .ok (.goto 4, 3) := by decide +kernel
theorem dX8_way_50 : decode cX8_way 50 = .ok (.iconst (-1), 1) := by decide +kernel
theorem dX8_way_51 : decode cX8_way 51 = .ok (.ireturn, 1) := by decide +kernel
theorem dX8_above_0 : decode cX8_above 0 = .ok (.iconst 0, 1) := by decide +kernel
theorem dX8_above_1 : decode cX8_above 1 = .ok (.istore_n 3, 1) := by decide +kernel
theorem dX8_above_2 : decode cX8_above 2 = .ok (.iconst 0, 1) := by decide +kernel
theorem dX8_above_3 : decode cX8_above 3 = .ok (.istore 4, 2) := by decide +kernel
theorem dX8_above_5 : decode cX8_above 5 = .ok (.aload_n 0, 1) := by decide +kernel
theorem dX8_above_6 : decode cX8_above 6 = .ok (.bipush 20, 2) := by decide +kernel
theorem dX8_above_8 : decode cX8_above 8 = .ok (.iload 4, 2) := by decide +kernel
theorem dX8_above_10 : decode cX8_above 10 = .ok (.invokevirtual 173, 3) := by decide +kernel
theorem dX8_above_13 : decode cX8_above 13 = .ok (.iload_n 1, 1) := by decide +kernel
theorem dX8_above_14 : decode cX8_above 14 = .ok (.if_icmp .eq 24, 3) := by decide +kernel
theorem dX8_above_17 : decode cX8_above 17 = .ok (.iload_n 3, 1) := by decide +kernel
theorem dX8_above_18 : decode cX8_above 18 = .ok (.iload_n 2, 1) := by decide +kernel
theorem dX8_above_19 : decode cX8_above 19 = .ok (.iconst 1, 1) := by decide +kernel
theorem dX8_above_20 : decode cX8_above 20 = .ok (.aload_n 0, 1) := by decide +kernel
theorem dX8_above_21 : decode cX8_above 21 = .ok (.bipush 20, 2) := by decide +kernel
theorem dX8_above_23 : decode cX8_above 23 = .ok (.iload 4, 2) := by decide +kernel
theorem dX8_above_25 : decode cX8_above 25 = .ok (.invokevirtual 173, 3) := by decide +kernel
theorem dX8_above_28 : decode cX8_above 28 = .ok (.ishl, 1) := by decide +kernel
theorem dX8_above_29 : decode cX8_above 29 = .ok (.iand, 1) := by decide +kernel
theorem dX8_above_30 : decode cX8_above 30 = .ok (.ior, 1) := by decide +kernel
theorem dX8_above_31 : decode cX8_above 31 = .ok (.istore_n 3, 1) := by decide +kernel
theorem dX8_above_32 : decode cX8_above 32 = .ok (.iinc 4 1, 3) := by decide +kernel
theorem dX8_above_35 : decode cX8_above 35 = .ok (.goto (-30), 3) := by decide +kernel
theorem dX8_above_38 : decode cX8_above 38 = .ok (.iload_n 3, 1) := by decide +kernel
theorem dX8_above_39 : decode cX8_above 39 = .ok (.ireturn, 1) := by decide +kernel
theorem dX8_rightAbove_0 : decode cX8_rightAbove 0 = .ok (.bipush (-4), 2) := by decide +kernel
theorem dX8_rightAbove_2 : decode cX8_rightAbove 2 = .ok (.istore_n 3, 1) := by decide +kernel
theorem dX8_rightAbove_3 : decode cX8_rightAbove 3 = .ok (.iconst 0, 1) := by decide +kernel
theorem dX8_rightAbove_4 : decode cX8_rightAbove 4 = .ok (.istore 4, 2) := by decide +kernel
theorem dX8_rightAbove_6 : decode cX8_rightAbove 6 = .ok (.aload_n 0, 1) := by decide +kernel
theorem dX8_rightAbove_7 : decode cX8_rightAbove 7 = .ok (.bipush 20, 2) := by decide +kernel
theorem dX8_rightAbove_9 : decode cX8_rightAbove 9 = .ok (.iload 4, 2) := by decide +kernel
theorem dX8_rightAbove_11 : decode cX8_rightAbove 11 = .ok (.invokevirtual 173, 3) := by decide +kernel
theorem dX8_rightAbove_14 : decode cX8_rightAbove 14 = .ok (.iload_n 1, 1) := by decide +kernel
theorem dX8_rightAbove_15 : decode cX8_rightAbove 15 = .ok (.if_icmp .eq 38, 3) := by decide +kernel
theorem dX8_rightAbove_18 : decode cX8_rightAbove 18 = .ok (.iload_n 2, 1) := by decide +kernel
theorem dX8_rightAbove_19 : decode cX8_rightAbove 19 = .ok (.aload_n 0, 1) := by decide +kernel
theorem dX8_rightAbove_20 : decode cX8_rightAbove 20 = .ok (.bipush 20, 2) := by decide +kernel
theorem dX8_rightAbove_22 : decode cX8_rightAbove 22 = .ok (.iload 4, 2) := by decide +kernel
theorem dX8_rightAbove_24 : decode cX8_rightAbove 24 = .ok (.invokevirtual 173, 3) := by decide +kernel
theorem dX8_rightAbove_27 : decode cX8_rightAbove 27 = .ok (.ishr, 1) := by decide +kernel
theorem dX8_rightAbove_28 : decode cX8_rightAbove 28 = .ok (.iconst 1, 1) := by decide +kernel
theorem dX8_rightAbove_29 : decode cX8_rightAbove 29 = .ok (.iand, 1) := by decide +kernel
theorem dX8_rightAbove_30 : decode cX8_rightAbove 30 = .ok (.iconst 1, 1) := by decide +kernel
theorem dX8_rightAbove_31 : decode cX8_rightAbove 31 = .ok (.if_icmp .ne 14, 3) := by decide +kernel
theorem dX8_rightAbove_34 : decode cX8_rightAbove 34 = .ok (.aload_n 0, 1) := by decide +kernel
theorem dX8_rightAbove_35 : decode cX8_rightAbove 35 = .ok (.bipush 20, 2) := by decide +kernel
theorem dX8_rightAbove_37 : decode cX8_rightAbove 37 = .ok (.iload 4, 2) := by decide +kernel
theorem dX8_rightAbove_39 : decode cX8_rightAbove 39 = .ok (.invokevirtual 173, 3) := by decide +kernel
theorem dX8_rightAbove_42 : decode cX8_rightAbove 42 = .ok (.goto 4, 3) := by decide +kernel
theorem dX8_rightAbove_45 : decode cX8_rightAbove 45 = .ok (.iload_n 3, 1) := by decide +kernel
theorem dX8_rightAbove_46 : decode cX8_rightAbove 46 = .ok (.istore_n 3, 1) := by decide +kernel
theorem dX8_rightAbove_47 : decode cX8_rightAbove 47 = .ok (.iinc 4 1, 3) := by decide +kernel
theorem dX8_rightAbove_50 : decode cX8_rightAbove 50 = .ok (.goto (-44), 3) := by decide +kernel
theorem dX8_rightAbove_53 : decode cX8_rightAbove 53 = .ok (.iload_n 3, 1) := by decide +kernel
theorem dX8_rightAbove_54 : decode cX8_rightAbove 54 = .ok (.ireturn, 1) := by decide +kernel
theorem dX8_clears_0 : decode cX8_clears 0 = .ok (.aload_n 0, 1) := by decide +kernel
theorem dX8_clears_1 : decode cX8_clears 1 = .ok (.iconst 0, 1) := by decide +kernel
theorem dX8_clears_2 : decode cX8_clears 2 = .ok (.putfield 212, 3) := by decide +kernel
theorem dX8_clears_5 : decode cX8_clears 5 = .ok (.aload_n 0, 1) := by decide +kernel
theorem dX8_clears_6 : decode cX8_clears 6 = .ok (.iconst 0, 1) := by decide +kernel
theorem dX8_clears_7 : decode cX8_clears 7 = .ok (.putfield 215, 3) := by decide +kernel
theorem dX8_clears_10 : decode cX8_clears 10 = .ok (.aload_n 0, 1) := by decide +kernel
theorem dX8_clears_11 : decode cX8_clears 11 = .ok (.iconst 0, 1) := by decide +kernel
theorem dX8_clears_12 : decode cX8_clears 12 = .ok (.putfield 218, 3) := by decide +kernel
theorem dX8_clears_15 : decode cX8_clears 15 = .ok (.aload_n 0, 1) := by decide +kernel
theorem dX8_clears_16 : decode cX8_clears 16 = .ok (.iconst 0, 1) := by decide +kernel
theorem dX8_clears_17 : decode cX8_clears 17 = .ok (.putfield 221, 3) := by decide +kernel
theorem dX8_clears_20 : decode cX8_clears 20 = .ok (.aload_n 0, 1) := by decide +kernel
theorem dX8_clears_21 : decode cX8_clears 21 = .ok (.iconst 0, 1) := by decide +kernel
theorem dX8_clears_22 : decode cX8_clears 22 = .ok (.putfield 224, 3) := by decide +kernel
theorem dX8_clears_25 : decode cX8_clears 25 = .ok (.return_, 1) := by decide +kernel
theorem dX8_goes_0 : decode cX8_goes 0 = .ok (.iload_n 2, 1) := by decide +kernel
theorem dX8_goes_1 : decode cX8_goes 1 = .ok (.istore_n 3, 1) := by decide +kernel
theorem dX8_goes_2 : decode cX8_goes 2 = .ok (.iload_n 1, 1) := by decide +kernel
theorem dX8_goes_3 : decode cX8_goes 3 = .ok (.istore 4, 2) := by decide +kernel
theorem dX8_goes_5 : decode cX8_goes 5 = .ok (.iconst 0, 1) := by decide +kernel
theorem dX8_goes_6 : decode cX8_goes 6 = .ok (.istore 5, 2) := by decide +kernel
theorem dX8_goes_8 : decode cX8_goes 8 = .ok (.iconst 0, 1) := by decide +kernel
theorem dX8_goes_9 : decode cX8_goes 9 = .ok (.istore 6, 2) := by decide +kernel
theorem dX8_goes_11 : decode cX8_goes 11 = .ok (.iload 6, 2) := by decide +kernel
theorem dX8_goes_13 : decode cX8_goes 13 = .ok (.aload_n 0, 1) := by decide +kernel
theorem dX8_goes_14 : decode cX8_goes 14 = .ok (.getfield 167, 3) := by decide +kernel
theorem dX8_goes_17 : decode cX8_goes 17 = .ok (.if_icmp .ge 285, 3) := by decide +kernel
theorem dX8_goes_20 : decode cX8_goes 20 = .ok (.aload_n 0, 1) := by decide +kernel
theorem dX8_goes_21 : decode cX8_goes 21 = .ok (.bipush 25, 2) := by decide +kernel
theorem dX8_goes_23 : decode cX8_goes 23 = .ok (.iload 6, 2) := by decide +kernel
theorem dX8_goes_25 : decode cX8_goes 25 = .ok (.invokevirtual 173, 3) := by decide +kernel
theorem dX8_goes_28 : decode cX8_goes 28 = .ok (.istore 7, 2) := by decide +kernel
theorem dX8_goes_30 : decode cX8_goes 30 = .ok (.iload_n 1, 1) := by decide +kernel
theorem dX8_goes_31 : decode cX8_goes 31 = .ok (.iload 7, 2) := by decide +kernel
theorem dX8_goes_33 : decode cX8_goes 33 = .ok (.ishr, 1) := by decide +kernel
theorem dX8_goes_34 : decode cX8_goes 34 = .ok (.iconst 1, 1) := by decide +kernel
theorem dX8_goes_35 : decode cX8_goes 35 = .ok (.iand, 1) := by decide +kernel
theorem dX8_goes_36 : decode cX8_goes 36 = .ok (.iconst 1, 1) := by decide +kernel
theorem dX8_goes_37 : decode cX8_goes 37 = .ok (.if_icmp .ne 259, 3) := by decide +kernel
theorem dX8_goes_40 : decode cX8_goes 40 = .ok (.aload_n 0, 1) := by decide +kernel
theorem dX8_goes_41 : decode cX8_goes 41 = .ok (.iload 5, 2) := by decide +kernel
theorem dX8_goes_43 : decode cX8_goes 43 = .ok (.aload_n 0, 1) := by decide +kernel
theorem dX8_goes_44 : decode cX8_goes 44 = .ok (.getfield 19, 3) := by decide +kernel
theorem dX8_goes_47 : decode cX8_goes 47 = .ok (.iload 7, 2) := by decide +kernel
theorem dX8_goes_49 : decode cX8_goes 49 = .ok (.iaload, 1) := by decide +kernel
theorem dX8_goes_50 : decode cX8_goes 50 = .ok (.aload_n 0, 1) := by decide +kernel
theorem dX8_goes_51 : decode cX8_goes 51 = .ok (.iload 4, 2) := by decide +kernel
theorem dX8_goes_53 : decode cX8_goes 53 = .ok (.invokevirtual 182, 3) := by decide +kernel
theorem dX8_goes_56 : decode cX8_goes 56 = .ok (.invokevirtual 209, 3) := by decide +kernel
theorem dX8_goes_59 : decode cX8_goes 59 = .ok (.istore 8, 2) := by decide +kernel
theorem dX8_goes_61 : decode cX8_goes 61 = .ok (.aload_n 0, 1) := by decide +kernel
theorem dX8_goes_62 : decode cX8_goes 62 = .ok (.iload 7, 2) := by decide +kernel
theorem dX8_goes_64 : decode cX8_goes 64 = .ok (.iload 4, 2) := by decide +kernel
theorem dX8_goes_66 : decode cX8_goes 66 = .ok (.invokevirtual 227, 3) := by decide +kernel
theorem dX8_goes_69 : decode cX8_goes 69 = .ok (.invokestatic 230, 3) := by decide +kernel
theorem dX8_goes_72 : decode cX8_goes 72 = .ok (.istore 9, 2) := by decide +kernel
theorem dX8_goes_74 : decode cX8_goes 74 = .ok (.aload_n 0, 1) := by decide +kernel
theorem dX8_goes_75 : decode cX8_goes 75 = .ok (.getfield 7, 3) := by decide +kernel
theorem dX8_goes_78 : decode cX8_goes 78 = .ok (.iload 7, 2) := by decide +kernel
theorem dX8_goes_80 : decode cX8_goes 80 = .ok (.iaload, 1) := by decide +kernel
theorem dX8_goes_81 : decode cX8_goes 81 = .ok (.iconst 3, 1) := by decide +kernel
theorem dX8_goes_82 : decode cX8_goes 82 = .ok (.if_icmp .ne 7, 3) := by decide +kernel
theorem dX8_goes_85 : decode cX8_goes 85 = .ok (.iconst 2, 1) := by decide +kernel
theorem dX8_goes_86 : decode cX8_goes 86 = .ok (.goto 4, 3) := by decide +kernel
theorem dX8_goes_89 : decode cX8_goes 89 = .ok (.iconst 1, 1) := by decide +kernel
theorem dX8_goes_90 : decode cX8_goes 90 = .ok (.istore 10, 2) := by decide +kernel
theorem dX8_goes_92 : decode cX8_goes 92 = .ok (.aload_n 0, 1) := by decide +kernel
theorem dX8_goes_93 : decode cX8_goes 93 = .ok (.iload 7, 2) := by decide +kernel
theorem dX8_goes_95 : decode cX8_goes 95 = .ok (.iload_n 1, 1) := by decide +kernel
theorem dX8_goes_96 : decode cX8_goes 96 = .ok (.invokevirtual 233, 3) := by decide +kernel
theorem dX8_goes_99 : decode cX8_goes 99 = .ok (.istore 11, 2) := by decide +kernel
theorem dX8_goes_101 : decode cX8_goes 101 = .ok (.iload_n 3, 1) := by decide +kernel
theorem dX8_goes_102 : decode cX8_goes 102 = .ok (.iload 8, 2) := by decide +kernel
theorem dX8_goes_104 : decode cX8_goes 104 = .ok (.iload 9, 2) := by decide +kernel
theorem dX8_goes_106 : decode cX8_goes 106 = .ok (.iadd, 1) := by decide +kernel
theorem dX8_goes_107 : decode cX8_goes 107 = .ok (.iload 10, 2) := by decide +kernel
theorem dX8_goes_109 : decode cX8_goes 109 = .ok (.iadd, 1) := by decide +kernel
theorem dX8_goes_110 : decode cX8_goes 110 = .ok (.iadd, 1) := by decide +kernel
theorem dX8_goes_111 : decode cX8_goes 111 = .ok (.istore_n 3, 1) := by decide +kernel
theorem dX8_goes_112 : decode cX8_goes 112 = .ok (.aload_n 0, 1) := by decide +kernel
theorem dX8_goes_113 : decode cX8_goes 113 = .ok (.dup, 1) := by decide +kernel
theorem dX8_goes_114 : decode cX8_goes 114 = .ok (.getfield 215, 3) := by decide +kernel
theorem dX8_goes_117 : decode cX8_goes 117 = .ok (.iload 8, 2) := by decide +kernel
theorem dX8_goes_119 : decode cX8_goes 119 = .ok (.iadd, 1) := by decide +kernel
theorem dX8_goes_120 : decode cX8_goes 120 = .ok (.putfield 215, 3) := by decide +kernel
theorem dX8_goes_123 : decode cX8_goes 123 = .ok (.aload_n 0, 1) := by decide +kernel
theorem dX8_goes_124 : decode cX8_goes 124 = .ok (.dup, 1) := by decide +kernel
theorem dX8_goes_125 : decode cX8_goes 125 = .ok (.getfield 212, 3) := by decide +kernel
theorem dX8_goes_128 : decode cX8_goes 128 = .ok (.iload 9, 2) := by decide +kernel
theorem dX8_goes_130 : decode cX8_goes 130 = .ok (.iadd, 1) := by decide +kernel
theorem dX8_goes_131 : decode cX8_goes 131 = .ok (.putfield 212, 3) := by decide +kernel
theorem dX8_goes_134 : decode cX8_goes 134 = .ok (.aload_n 0, 1) := by decide +kernel
theorem dX8_goes_135 : decode cX8_goes 135 = .ok (.dup, 1) := by decide +kernel
theorem dX8_goes_136 : decode cX8_goes 136 = .ok (.getfield 218, 3) := by decide +kernel
theorem dX8_goes_139 : decode cX8_goes 139 = .ok (.iload 10, 2) := by decide +kernel
theorem dX8_goes_141 : decode cX8_goes 141 = .ok (.iadd, 1) := by decide +kernel
theorem dX8_goes_142 : decode cX8_goes 142 = .ok (.putfield 218, 3) := by decide +kernel
theorem dX8_goes_145 : decode cX8_goes 145 = .ok (.aload_n 0, 1) := by decide +kernel
theorem dX8_goes_146 : decode cX8_goes 146 = .ok (.getfield 49, 3) := by decide +kernel
theorem dX8_goes_149 : decode cX8_goes 149 = .ok (.iload 7, 2) := by decide +kernel
theorem dX8_goes_151 : decode cX8_goes 151 = .ok (.iload_n 3, 1) := by decide +kernel
theorem dX8_goes_152 : decode cX8_goes 152 = .ok (.iastore, 1) := by decide +kernel
theorem dX8_goes_153 : decode cX8_goes 153 = .ok (.aload_n 0, 1) := by decide +kernel
theorem dX8_goes_154 : decode cX8_goes 154 = .ok (.getfield 19, 3) := by decide +kernel
theorem dX8_goes_157 : decode cX8_goes 157 = .ok (.iload 7, 2) := by decide +kernel
theorem dX8_goes_159 : decode cX8_goes 159 = .ok (.iaload, 1) := by decide +kernel
theorem dX8_goes_160 : decode cX8_goes 160 = .ok (.istore 5, 2) := by decide +kernel
theorem dX8_goes_162 : decode cX8_goes 162 = .ok (.iload 4, 2) := by decide +kernel
theorem dX8_goes_164 : decode cX8_goes 164 = .ok (.iconst 1, 1) := by decide +kernel
theorem dX8_goes_165 : decode cX8_goes 165 = .ok (.iload 7, 2) := by decide +kernel
theorem dX8_goes_167 : decode cX8_goes 167 = .ok (.ishl, 1) := by decide +kernel
theorem dX8_goes_168 : decode cX8_goes 168 = .ok (.iconst (-1), 1) := by decide +kernel
theorem dX8_goes_169 : decode cX8_goes 169 = .ok (.ixor, 1) := by decide +kernel
theorem dX8_goes_170 : decode cX8_goes 170 = .ok (.iand, 1) := by decide +kernel
theorem dX8_goes_171 : decode cX8_goes 171 = .ok (.istore 4, 2) := by decide +kernel
theorem dX8_goes_173 : decode cX8_goes 173 = .ok (.aload_n 0, 1) := by decide +kernel
theorem dX8_goes_174 : decode cX8_goes 174 = .ok (.getfield 7, 3) := by decide +kernel
theorem dX8_goes_177 : decode cX8_goes 177 = .ok (.iload 7, 2) := by decide +kernel
theorem dX8_goes_179 : decode cX8_goes 179 = .ok (.iaload, 1) := by decide +kernel
theorem dX8_goes_180 : decode cX8_goes 180 = .ok (.iconst 1, 1) := by decide +kernel
theorem dX8_goes_181 : decode cX8_goes 181 = .ok (.if_icmp .ne 18, 3) := by decide +kernel
theorem dX8_goes_184 : decode cX8_goes 184 = .ok (.aload_n 0, 1) := by decide +kernel
theorem dX8_goes_185 : decode cX8_goes 185 = .ok (.aload_n 0, 1) := by decide +kernel
theorem dX8_goes_186 : decode cX8_goes 186 = .ok (.iload 7, 2) := by decide +kernel
theorem dX8_goes_188 : decode cX8_goes 188 = .ok (.iload_n 1, 1) := by decide +kernel
theorem dX8_goes_189 : decode cX8_goes 189 = .ok (.invokevirtual 227, 3) := by decide +kernel
theorem dX8_goes_192 : decode cX8_goes 192 = .ok (.invokevirtual 182, 3) := by decide +kernel
theorem dX8_goes_195 : decode cX8_goes 195 = .ok (.iconst 5, 1) := by decide +kernel
theorem dX8_goes_196 : decode cX8_goes 196 = .ok (.if_icmp .gt 40, 3) := by decide +kernel
theorem dX8_goes_199 : decode cX8_goes 199 = .ok (.aload_n 0, 1) := by decide +kernel
theorem dX8_goes_200 : decode cX8_goes 200 = .ok (.getfield 7, 3) := by decide +kernel
theorem dX8_goes_203 : decode cX8_goes 203 = .ok (.iload 7, 2) := by decide +kernel
theorem dX8_goes_205 : decode cX8_goes 205 = .ok (.iaload, 1) := by decide +kernel
theorem dX8_goes_206 : decode cX8_goes 206 = .ok (.iconst 2, 1) := by decide +kernel
theorem dX8_goes_207 : decode cX8_goes 207 = .ok (.if_icmp .ne 11, 3) := by decide +kernel
theorem dX8_goes_210 : decode cX8_goes 210 = .ok (.iload_n 3, 1) := by decide +kernel
theorem dX8_goes_211 : decode cX8_goes 211 = .ok (.iload_n 2, 1) := by decide +kernel
theorem dX8_goes_212 : decode cX8_goes 212 = .ok (.isub, 1) := by decide +kernel
theorem dX8_goes_213 : decode cX8_goes 213 = .ok (.bipush 20, 2) := by decide +kernel
theorem dX8_goes_215 : decode cX8_goes 215 = .ok (.if_icmp .gt 21, 3) := by decide +kernel
theorem dX8_goes_218 : decode cX8_goes 218 = .ok (.iload 11, 2) := by decide +kernel
theorem dX8_goes_220 : decode cX8_goes 220 = .ok (.bipush (-4), 2) := by decide +kernel
theorem dX8_goes_222 : decode cX8_goes 222 = .ok (.if_icmp .eq 18, 3) := by decide +kernel
theorem dX8_goes_225 : decode cX8_goes 225 = .ok (.aload_n 0, 1) := by decide +kernel
theorem dX8_goes_226 : decode cX8_goes 226 = .ok (.getfield 7, 3) := by decide +kernel
theorem dX8_goes_229 : decode cX8_goes 229 = .ok (.iload 11, 2) := by decide +kernel
theorem dX8_goes_231 : decode cX8_goes 231 = .ok (.iaload, 1) := by decide +kernel
theorem dX8_goes_232 : decode cX8_goes 232 = .ok (.iconst 4, 1) := by decide +kernel
theorem dX8_goes_233 : decode cX8_goes 233 = .ok (.if_icmp .ne 7, 3) := by decide +kernel
theorem dX8_goes_236 : decode cX8_goes 236 = .ok (.iconst 1, 1) := by decide +kernel
theorem dX8_goes_237 : decode cX8_goes 237 = .ok (.goto 4, 3) := by decide +kernel
theorem dX8_goes_240 : decode cX8_goes 240 = .ok (.iconst 0, 1) := by decide +kernel
theorem dX8_goes_241 : decode cX8_goes 241 = .ok (.istore 12, 2) := by decide +kernel
theorem dX8_goes_243 : decode cX8_goes 243 = .ok (.aload_n 0, 1) := by decide +kernel
theorem dX8_goes_244 : decode cX8_goes 244 = .ok (.dup, 1) := by decide +kernel
theorem dX8_goes_245 : decode cX8_goes 245 = .ok (.getfield 221, 3) := by decide +kernel
theorem dX8_goes_248 : decode cX8_goes 248 = .ok (.iload 12, 2) := by decide +kernel
theorem dX8_goes_250 : decode cX8_goes 250 = .ok (.ifCond .eq 10, 3) := by decide +kernel
theorem dX8_goes_253 : decode cX8_goes 253 = .ok (.iconst 1, 1) := by decide +kernel
theorem dX8_goes_254 : decode cX8_goes 254 = .ok (.iload 7, 2) := by decide +kernel
theorem dX8_goes_256 : decode cX8_goes 256 = .ok (.ishl, 1) := by decide +kernel
theorem dX8_goes_257 : decode cX8_goes 257 = .ok (.goto 4, 3) := by decide +kernel
theorem dX8_goes_260 : decode cX8_goes 260 = .ok (.iconst 0, 1) := by decide +kernel
theorem dX8_goes_261 : decode cX8_goes 261 = .ok (.ior, 1) := by decide +kernel
theorem dX8_goes_262 : decode cX8_goes 262 = .ok (.putfield 221, 3) := by decide +kernel
theorem dX8_goes_265 : decode cX8_goes 265 = .ok (.aload_n 0, 1) := by decide +kernel
theorem dX8_goes_266 : decode cX8_goes 266 = .ok (.dup, 1) := by decide +kernel
theorem dX8_goes_267 : decode cX8_goes 267 = .ok (.getfield 224, 3) := by decide +kernel
theorem dX8_goes_270 : decode cX8_goes 270 = .ok (.iload_n 3, 1) := by decide +kernel
theorem dX8_goes_271 : decode cX8_goes 271 = .ok (.aload_n 0, 1) := by decide +kernel
theorem dX8_goes_272 : decode cX8_goes 272 = .ok (.getfield 7, 3) := by decide +kernel
theorem dX8_goes_275 : decode cX8_goes 275 = .ok (.bipush 15, 2) := by decide +kernel
theorem dX8_goes_277 : decode cX8_goes 277 = .ok (.iload 7, 2) := by decide +kernel
theorem dX8_goes_279 : decode cX8_goes 279 = .ok (.iadd, 1) := by decide +kernel
theorem dX8_goes_280 : decode cX8_goes 280 = .ok (.iaload, 1) := by decide +kernel
theorem dX8_goes_281 : decode cX8_goes 281 = .ok (.if_icmp .le 10, 3) := by decide +kernel
theorem dX8_goes_284 : decode cX8_goes 284 = .ok (.iconst 1, 1) := by decide +kernel
theorem dX8_goes_285 : decode cX8_goes 285 = .ok (.iload 7, 2) := by decide +kernel
theorem dX8_goes_287 : decode cX8_goes 287 = .ok (.ishl, 1) := by decide +kernel
theorem dX8_goes_288 : decode cX8_goes 288 = .ok (.goto 4, 3) := by decide +kernel
theorem dX8_goes_291 : decode cX8_goes 291 = .ok (.iconst 0, 1) := by decide +kernel
theorem dX8_goes_292 : decode cX8_goes 292 = .ok (.ior, 1) := by decide +kernel
theorem dX8_goes_293 : decode cX8_goes 293 = .ok (.putfield 224, 3) := by decide +kernel
theorem dX8_goes_296 : decode cX8_goes 296 = .ok (.iinc 6 1, 3) := by decide +kernel
theorem dX8_goes_299 : decode cX8_goes 299 = .ok (.goto (-288), 3) := by decide +kernel
theorem dX8_goes_302 : decode cX8_goes 302 = .ok (.aload_n 0, 1) := by decide +kernel
theorem dX8_goes_303 : decode cX8_goes 303 = .ok (.iload 5, 2) := by decide +kernel
theorem dX8_goes_305 : decode cX8_goes 305 = .ok (.iconst 0, 1) := by decide +kernel
theorem dX8_goes_306 : decode cX8_goes 306 = .ok (.iconst 0, 1) := by decide +kernel
theorem dX8_goes_307 : decode cX8_goes 307 = .ok (.invokevirtual 209, 3) := by decide +kernel
theorem dX8_goes_310 : decode cX8_goes 310 = .ok (.istore 6, 2) := by decide +kernel
theorem dX8_goes_312 : decode cX8_goes 312 = .ok (.aload_n 0, 1) := by decide +kernel
theorem dX8_goes_313 : decode cX8_goes 313 = .ok (.dup, 1) := by decide +kernel
theorem dX8_goes_314 : decode cX8_goes 314 = .ok (.getfield 215, 3) := by decide +kernel
theorem dX8_goes_317 : decode cX8_goes 317 = .ok (.iload 6, 2) := by decide +kernel
theorem dX8_goes_319 : decode cX8_goes 319 = .ok (.iadd, 1) := by decide +kernel
theorem dX8_goes_320 : decode cX8_goes 320 = .ok (.putfield 215, 3) := by decide +kernel
theorem dX8_goes_323 : decode cX8_goes 323 = .ok (.iload_n 3, 1) := by decide +kernel
theorem dX8_goes_324 : decode cX8_goes 324 = .ok (.iload 6, 2) := by decide +kernel
theorem dX8_goes_326 : decode cX8_goes 326 = .ok (.iadd, 1) := by decide +kernel
theorem dX8_goes_327 : decode cX8_goes 327 = .ok (.ireturn, 1) := by decide +kernel
theorem dX8_bitsOf_0 : decode cX8_bitsOf 0 = .ok (.iconst 0, 1) := by decide +kernel
theorem dX8_bitsOf_1 : decode cX8_bitsOf 1 = .ok (.istore_n 1, 1) := by decide +kernel
theorem dX8_bitsOf_2 : decode cX8_bitsOf 2 = .ok (.iconst 0, 1) := by decide +kernel
theorem dX8_bitsOf_3 : decode cX8_bitsOf 3 = .ok (.istore_n 2, 1) := by decide +kernel
theorem dX8_bitsOf_4 : decode cX8_bitsOf 4 = .ok (.iload_n 2, 1) := by decide +kernel
theorem dX8_bitsOf_5 : decode cX8_bitsOf 5 = .ok (.iconst 5, 1) := by decide +kernel
theorem dX8_bitsOf_6 : decode cX8_bitsOf 6 = .ok (.if_icmp .ge 17, 3) := by decide +kernel
theorem dX8_bitsOf_9 : decode cX8_bitsOf 9 = .ok (.iload_n 1, 1) := by decide +kernel
theorem dX8_bitsOf_10 : decode cX8_bitsOf 10 = .ok (.iload_n 0, 1) := by decide +kernel
theorem dX8_bitsOf_11 : decode cX8_bitsOf 11 = .ok (.iload_n 2, 1) := by decide +kernel
theorem dX8_bitsOf_12 : decode cX8_bitsOf 12 = .ok (.ishr, 1) := by decide +kernel
theorem dX8_bitsOf_13 : decode cX8_bitsOf 13 = .ok (.iconst 1, 1) := by decide +kernel
theorem dX8_bitsOf_14 : decode cX8_bitsOf 14 = .ok (.iand, 1) := by decide +kernel
theorem dX8_bitsOf_15 : decode cX8_bitsOf 15 = .ok (.iadd, 1) := by decide +kernel
theorem dX8_bitsOf_16 : decode cX8_bitsOf 16 = .ok (.istore_n 1, 1) := by decide +kernel
theorem dX8_bitsOf_17 : decode cX8_bitsOf 17 = .ok (.iinc 2 1, 3) := by decide +kernel
theorem dX8_bitsOf_20 : decode cX8_bitsOf 20 = .ok (.goto (-16), 3) := by decide +kernel
theorem dX8_bitsOf_23 : decode cX8_bitsOf 23 = .ok (.iload_n 1, 1) := by decide +kernel
theorem dX8_bitsOf_24 : decode cX8_bitsOf 24 = .ok (.ireturn, 1) := by decide +kernel
theorem dX8_every_0 : decode cX8_every 0 = .ok (.iconst 1, 1) := by decide +kernel
theorem dX8_every_1 : decode cX8_every 1 = .ok (.aload_n 0, 1) := by decide +kernel
theorem dX8_every_2 : decode cX8_every 2 = .ok (.getfield 167, 3) := by decide +kernel
theorem dX8_every_5 : decode cX8_every 5 = .ok (.ishl, 1) := by decide +kernel
theorem dX8_every_6 : decode cX8_every 6 = .ok (.iconst 1, 1) := by decide +kernel
theorem dX8_every_7 : decode cX8_every 7 = .ok (.isub, 1) := by decide +kernel
theorem dX8_every_8 : decode cX8_every 8 = .ok (.ireturn, 1) := by decide +kernel
theorem dX8_wholeRound_0 : decode cX8_wholeRound 0 = .ok (.aload_n 0, 1) := by decide +kernel
theorem dX8_wholeRound_1 : decode cX8_wholeRound 1 = .ok (.invokevirtual 236, 3) := by decide +kernel
theorem dX8_wholeRound_4 : decode cX8_wholeRound 4 = .ok (.aload_n 0, 1) := by decide +kernel
theorem dX8_wholeRound_5 : decode cX8_wholeRound 5 = .ok (.aload_n 0, 1) := by decide +kernel
theorem dX8_wholeRound_6 : decode cX8_wholeRound 6 = .ok (.invokevirtual 239, 3) := by decide +kernel
theorem dX8_wholeRound_9 : decode cX8_wholeRound 9 = .ok (.aload_n 0, 1) := by decide +kernel
theorem dX8_wholeRound_10 : decode cX8_wholeRound 10 = .ok (.getfield 7, 3) := by decide +kernel
theorem dX8_wholeRound_13 : decode cX8_wholeRound 13 = .ok (.bipush 31, 2) := by decide +kernel
theorem dX8_wholeRound_15 : decode cX8_wholeRound 15 = .ok (.iaload, 1) := by decide +kernel
theorem dX8_wholeRound_16 : decode cX8_wholeRound 16 = .ok (.invokevirtual 242, 3) := by decide +kernel
theorem dX8_wholeRound_19 : decode cX8_wholeRound 19 = .ok (.ireturn, 1) := by decide +kernel
theorem dX8_penniesOf_0 : decode cX8_penniesOf 0 = .ok (.iconst 0, 1) := by decide +kernel
theorem dX8_penniesOf_1 : decode cX8_penniesOf 1 = .ok (.istore_n 2, 1) := by decide +kernel
theorem dX8_penniesOf_2 : decode cX8_penniesOf 2 = .ok (.iconst 0, 1) := by decide +kernel
theorem dX8_penniesOf_3 : decode cX8_penniesOf 3 = .ok (.istore_n 3, 1) := by decide +kernel
theorem dX8_penniesOf_4 : decode cX8_penniesOf 4 = .ok (.iload_n 3, 1) := by decide +kernel
theorem dX8_penniesOf_5 : decode cX8_penniesOf 5 = .ok (.aload_n 0, 1) := by decide +kernel
theorem dX8_penniesOf_6 : decode cX8_penniesOf 6 = .ok (.getfield 167, 3) := by decide +kernel
theorem dX8_penniesOf_9 : decode cX8_penniesOf 9 = .ok (.if_icmp .ge 48, 3) := by decide +kernel
theorem dX8_penniesOf_12 : decode cX8_penniesOf 12 = .ok (.iload_n 2, 1) := by decide +kernel
theorem dX8_penniesOf_13 : decode cX8_penniesOf 13 = .ok (.iload_n 1, 1) := by decide +kernel
theorem dX8_penniesOf_14 : decode cX8_penniesOf 14 = .ok (.aload_n 0, 1) := by decide +kernel
theorem dX8_penniesOf_15 : decode cX8_penniesOf 15 = .ok (.getfield 221, 3) := by decide +kernel
theorem dX8_penniesOf_18 : decode cX8_penniesOf 18 = .ok (.iconst (-1), 1) := by decide +kernel
theorem dX8_penniesOf_19 : decode cX8_penniesOf 19 = .ok (.ixor, 1) := by decide +kernel
theorem dX8_penniesOf_20 : decode cX8_penniesOf 20 = .ok (.iand, 1) := by decide +kernel
theorem dX8_penniesOf_21 : decode cX8_penniesOf 21 = .ok (.aload_n 0, 1) := by decide +kernel
theorem dX8_penniesOf_22 : decode cX8_penniesOf 22 = .ok (.getfield 224, 3) := by decide +kernel
theorem dX8_penniesOf_25 : decode cX8_penniesOf 25 = .ok (.iconst (-1), 1) := by decide +kernel
theorem dX8_penniesOf_26 : decode cX8_penniesOf 26 = .ok (.ixor, 1) := by decide +kernel
theorem dX8_penniesOf_27 : decode cX8_penniesOf 27 = .ok (.iand, 1) := by decide +kernel
theorem dX8_penniesOf_28 : decode cX8_penniesOf 28 = .ok (.iload_n 3, 1) := by decide +kernel
theorem dX8_penniesOf_29 : decode cX8_penniesOf 29 = .ok (.ishr, 1) := by decide +kernel
theorem dX8_penniesOf_30 : decode cX8_penniesOf 30 = .ok (.iconst 1, 1) := by decide +kernel
theorem dX8_penniesOf_31 : decode cX8_penniesOf 31 = .ok (.iand, 1) := by decide +kernel
theorem dX8_penniesOf_32 : decode cX8_penniesOf 32 = .ok (.iconst 1, 1) := by decide +kernel
theorem dX8_penniesOf_33 : decode cX8_penniesOf 33 = .ok (.if_icmp .ne 15, 3) := by decide +kernel
theorem dX8_penniesOf_36 : decode cX8_penniesOf 36 = .ok (.aload_n 0, 1) := by decide +kernel
theorem dX8_penniesOf_37 : decode cX8_penniesOf 37 = .ok (.getfield 7, 3) := by decide +kernel
theorem dX8_penniesOf_40 : decode cX8_penniesOf 40 = .ok (.bipush 10, 2) := by decide +kernel
theorem dX8_penniesOf_42 : decode cX8_penniesOf 42 = .ok (.iload_n 3, 1) := by decide +kernel
theorem dX8_penniesOf_43 : decode cX8_penniesOf 43 = .ok (.iadd, 1) := by decide +kernel
theorem dX8_penniesOf_44 : decode cX8_penniesOf 44 = .ok (.iaload, 1) := by decide +kernel
theorem dX8_penniesOf_45 : decode cX8_penniesOf 45 = .ok (.goto 4, 3) := by decide +kernel
theorem dX8_penniesOf_48 : decode cX8_penniesOf 48 = .ok (.iconst 0, 1) := by decide +kernel
theorem dX8_penniesOf_49 : decode cX8_penniesOf 49 = .ok (.iadd, 1) := by decide +kernel
theorem dX8_penniesOf_50 : decode cX8_penniesOf 50 = .ok (.istore_n 2, 1) := by decide +kernel
theorem dX8_penniesOf_51 : decode cX8_penniesOf 51 = .ok (.iinc 3 1, 3) := by decide +kernel
theorem dX8_penniesOf_54 : decode cX8_penniesOf 54 = .ok (.goto (-50), 3) := by decide +kernel
theorem dX8_penniesOf_57 : decode cX8_penniesOf 57 = .ok (.iload_n 2, 1) := by decide +kernel
theorem dX8_penniesOf_58 : decode cX8_penniesOf 58 = .ok (.ireturn, 1) := by decide +kernel
theorem dX8_time_0 : decode cX8_time 0 = .ok (.aload_n 0, 1) := by decide +kernel
theorem dX8_time_1 : decode cX8_time 1 = .ok (.iload_n 1, 1) := by decide +kernel
theorem dX8_time_2 : decode cX8_time 2 = .ok (.invokevirtual 185, 3) := by decide +kernel
theorem dX8_time_5 : decode cX8_time 5 = .ok (.ifCond .ne 5, 3) := by decide +kernel
theorem dX8_time_8 : decode cX8_time 8 = .ok (.iconst (-1), 1) := by decide +kernel
theorem dX8_time_9 : decode cX8_time 9 = .ok (.ireturn, 1) := by decide +kernel
theorem dX8_time_10 : decode cX8_time 10 = .ok (.aload_n 0, 1) := by decide +kernel
theorem dX8_time_11 : decode cX8_time 11 = .ok (.invokevirtual 245, 3) := by decide +kernel
theorem dX8_time_14 : decode cX8_time 14 = .ok (.pop, 1) := by decide +kernel
theorem dX8_time_15 : decode cX8_time 15 = .ok (.aload_n 0, 1) := by decide +kernel
theorem dX8_time_16 : decode cX8_time 16 = .ok (.getfield 49, 3) := by decide +kernel
theorem dX8_time_19 : decode cX8_time 19 = .ok (.iload_n 1, 1) := by decide +kernel
theorem dX8_time_20 : decode cX8_time 20 = .ok (.iaload, 1) := by decide +kernel
theorem dX8_time_21 : decode cX8_time 21 = .ok (.ireturn, 1) := by decide +kernel
theorem dX8_back_0 : decode cX8_back 0 = .ok (.aload_n 0, 1) := by decide +kernel
theorem dX8_back_1 : decode cX8_back 1 = .ok (.invokevirtual 245, 3) := by decide +kernel
theorem dX8_back_4 : decode cX8_back 4 = .ok (.ireturn, 1) := by decide +kernel
theorem dX8_spoilt_0 : decode cX8_spoilt 0 = .ok (.aload_n 0, 1) := by decide +kernel
theorem dX8_spoilt_1 : decode cX8_spoilt 1 = .ok (.invokevirtual 245, 3) := by decide +kernel
theorem dX8_spoilt_4 : decode cX8_spoilt 4 = .ok (.pop, 1) := by decide +kernel
theorem dX8_spoilt_5 : decode cX8_spoilt 5 = .ok (.aload_n 0, 1) := by decide +kernel
theorem dX8_spoilt_6 : decode cX8_spoilt 6 = .ok (.getfield 221, 3) := by decide +kernel
theorem dX8_spoilt_9 : decode cX8_spoilt 9 = .ok (.ireturn, 1) := by decide +kernel
theorem dX8_late_0 : decode cX8_late 0 = .ok (.aload_n 0, 1) := by decide +kernel
theorem dX8_late_1 : decode cX8_late 1 = .ok (.invokevirtual 245, 3) := by decide +kernel
theorem dX8_late_4 : decode cX8_late 4 = .ok (.pop, 1) := by decide +kernel
theorem dX8_late_5 : decode cX8_late 5 = .ok (.aload_n 0, 1) := by decide +kernel
theorem dX8_late_6 : decode cX8_late 6 = .ok (.getfield 224, 3) := by decide +kernel
theorem dX8_late_9 : decode cX8_late 9 = .ok (.ireturn, 1) := by decide +kernel
theorem dX8_pennies_0 : decode cX8_pennies 0 = .ok (.aload_n 0, 1) := by decide +kernel
theorem dX8_pennies_1 : decode cX8_pennies 1 = .ok (.invokevirtual 245, 3) := by decide +kernel
theorem dX8_pennies_4 : decode cX8_pennies 4 = .ok (.pop, 1) := by decide +kernel
theorem dX8_pennies_5 : decode cX8_pennies 5 = .ok (.aload_n 0, 1) := by decide +kernel
theorem dX8_pennies_6 : decode cX8_pennies 6 = .ok (.aload_n 0, 1) := by decide +kernel
theorem dX8_pennies_7 : decode cX8_pennies 7 = .ok (.invokevirtual 239, 3) := by decide +kernel
theorem dX8_pennies_10 : decode cX8_pennies 10 = .ok (.invokevirtual 248, 3) := by decide +kernel
theorem dX8_pennies_13 : decode cX8_pennies 13 = .ok (.ireturn, 1) := by decide +kernel
theorem dX8_spent_0 : decode cX8_spent 0 = .ok (.iload_n 1, 1) := by decide +kernel
theorem dX8_spent_1 : decode cX8_spent 1 = .ok (.i2l, 1) := by decide +kernel
theorem dX8_spent_2 : decode cX8_spent 2 = .ok (.lconst 0, 1) := by decide +kernel
theorem dX8_spent_3 : decode cX8_spent 3 = .ok (.ldc2_w 251, 3) := by decide +kernel
theorem dX8_spent_6 : decode cX8_spent 6 = .ok (.invokestatic 70, 3) := by decide +kernel
theorem dX8_spent_9 : decode cX8_spent 9 = .ok (.ifCond .ne 5, 3) := by decide +kernel
theorem dX8_spent_12 : decode cX8_spent 12 = .ok (.iconst (-1), 1) := by decide +kernel
theorem dX8_spent_13 : decode cX8_spent 13 = .ok (.ireturn, 1) := by decide +kernel
theorem dX8_spent_14 : decode cX8_spent 14 = .ok (.aload_n 0, 1) := by decide +kernel
theorem dX8_spent_15 : decode cX8_spent 15 = .ok (.invokevirtual 245, 3) := by decide +kernel
theorem dX8_spent_18 : decode cX8_spent 18 = .ok (.pop, 1) := by decide +kernel
theorem dX8_spent_19 : decode cX8_spent 19 = .ok (.iload_n 1, 1) := by decide +kernel
theorem dX8_spent_20 : decode cX8_spent 20 = .ok (.ifCond .ne 10, 3) := by decide +kernel
theorem dX8_spent_23 : decode cX8_spent 23 = .ok (.aload_n 0, 1) := by decide +kernel
theorem dX8_spent_24 : decode cX8_spent 24 = .ok (.getfield 212, 3) := by decide +kernel
theorem dX8_spent_27 : decode cX8_spent 27 = .ok (.goto 19, 3) := by decide +kernel
theorem dX8_spent_30 : decode cX8_spent 30 = .ok (.iload_n 1, 1) := by decide +kernel
theorem dX8_spent_31 : decode cX8_spent 31 = .ok (.iconst 1, 1) := by decide +kernel
theorem dX8_spent_32 : decode cX8_spent 32 = .ok (.if_icmp .ne 10, 3) := by decide +kernel
theorem dX8_spent_35 : decode cX8_spent 35 = .ok (.aload_n 0, 1) := by decide +kernel
theorem dX8_spent_36 : decode cX8_spent 36 = .ok (.getfield 215, 3) := by decide +kernel
theorem dX8_spent_39 : decode cX8_spent 39 = .ok (.goto 7, 3) := by decide +kernel
theorem dX8_spent_42 : decode cX8_spent 42 = .ok (.aload_n 0, 1) := by decide +kernel
theorem dX8_spent_43 : decode cX8_spent 43 = .ok (.getfield 218, 3) := by decide +kernel
theorem dX8_spent_46 : decode cX8_spent 46 = .ok (.ireturn, 1) := by decide +kernel
theorem dX8_copies_0 : decode cX8_copies 0 = .ok (.iconst 0, 1) := by decide +kernel
theorem dX8_copies_1 : decode cX8_copies 1 = .ok (.istore_n 3, 1) := by decide +kernel
theorem dX8_copies_2 : decode cX8_copies 2 = .ok (.iload_n 3, 1) := by decide +kernel
theorem dX8_copies_3 : decode cX8_copies 3 = .ok (.bipush 32, 2) := by decide +kernel
theorem dX8_copies_5 : decode cX8_copies 5 = .ok (.if_icmp .ge 25, 3) := by decide +kernel
theorem dX8_copies_8 : decode cX8_copies 8 = .ok (.aload_n 0, 1) := by decide +kernel
theorem dX8_copies_9 : decode cX8_copies 9 = .ok (.getfield 7, 3) := by decide +kernel
theorem dX8_copies_12 : decode cX8_copies 12 = .ok (.iload_n 2, 1) := by decide +kernel
theorem dX8_copies_13 : decode cX8_copies 13 = .ok (.iload_n 3, 1) := by decide +kernel
theorem dX8_copies_14 : decode cX8_copies 14 = .ok (.iadd, 1) := by decide +kernel
theorem dX8_copies_15 : decode cX8_copies 15 = .ok (.aload_n 0, 1) := by decide +kernel
theorem dX8_copies_16 : decode cX8_copies 16 = .ok (.getfield 7, 3) := by decide +kernel
theorem dX8_copies_19 : decode cX8_copies 19 = .ok (.iload_n 1, 1) := by decide +kernel
theorem dX8_copies_20 : decode cX8_copies 20 = .ok (.iload_n 3, 1) := by decide +kernel
theorem dX8_copies_21 : decode cX8_copies 21 = .ok (.iadd, 1) := by decide +kernel
theorem dX8_copies_22 : decode cX8_copies 22 = .ok (.iaload, 1) := by decide +kernel
theorem dX8_copies_23 : decode cX8_copies 23 = .ok (.iastore, 1) := by decide +kernel
theorem dX8_copies_24 : decode cX8_copies 24 = .ok (.iinc 3 1, 3) := by decide +kernel
theorem dX8_copies_27 : decode cX8_copies 27 = .ok (.goto (-25), 3) := by decide +kernel
theorem dX8_copies_30 : decode cX8_copies 30 = .ok (.return_, 1) := by decide +kernel
theorem dX8_weighs_0 : decode cX8_weighs 0 = .ok (.aload_n 0, 1) := by decide +kernel
theorem dX8_weighs_1 : decode cX8_weighs 1 = .ok (.invokevirtual 245, 3) := by decide +kernel
theorem dX8_weighs_4 : decode cX8_weighs 4 = .ok (.istore_n 1, 1) := by decide +kernel
theorem dX8_weighs_5 : decode cX8_weighs 5 = .ok (.aload_n 0, 1) := by decide +kernel
theorem dX8_weighs_6 : decode cX8_weighs 6 = .ok (.aload_n 0, 1) := by decide +kernel
theorem dX8_weighs_7 : decode cX8_weighs 7 = .ok (.invokevirtual 239, 3) := by decide +kernel
theorem dX8_weighs_10 : decode cX8_weighs 10 = .ok (.invokevirtual 248, 3) := by decide +kernel
theorem dX8_weighs_13 : decode cX8_weighs 13 = .ok (.istore_n 2, 1) := by decide +kernel
theorem dX8_weighs_14 : decode cX8_weighs 14 = .ok (.iload_n 2, 1) := by decide +kernel
theorem dX8_weighs_15 : decode cX8_weighs 15 = .ok (.aload_n 0, 1) := by decide +kernel
theorem dX8_weighs_16 : decode cX8_weighs 16 = .ok (.getfield 253, 3) := by decide +kernel
theorem dX8_weighs_19 : decode cX8_weighs 19 = .ok (.if_icmp .gt 19, 3) := by decide +kernel
theorem dX8_weighs_22 : decode cX8_weighs 22 = .ok (.iload_n 2, 1) := by decide +kernel
theorem dX8_weighs_23 : decode cX8_weighs 23 = .ok (.aload_n 0, 1) := by decide +kernel
theorem dX8_weighs_24 : decode cX8_weighs 24 = .ok (.getfield 253, 3) := by decide +kernel
theorem dX8_weighs_27 : decode cX8_weighs 27 = .ok (.if_icmp .ne 41, 3) := by decide +kernel
theorem dX8_weighs_30 : decode cX8_weighs 30 = .ok (.iload_n 1, 1) := by decide +kernel
theorem dX8_weighs_31 : decode cX8_weighs 31 = .ok (.aload_n 0, 1) := by decide +kernel
theorem dX8_weighs_32 : decode cX8_weighs 32 = .ok (.getfield 256, 3) := by decide +kernel
theorem dX8_weighs_35 : decode cX8_weighs 35 = .ok (.if_icmp .ge 33, 3) := by decide +kernel
theorem dX8_weighs_38 : decode cX8_weighs 38 = .ok (.aload_n 0, 1) := by decide +kernel
theorem dX8_weighs_39 : decode cX8_weighs 39 = .ok (.iload_n 2, 1) := by decide +kernel
theorem dX8_weighs_40 : decode cX8_weighs 40 = .ok (.putfield 253, 3) := by decide +kernel
theorem dX8_weighs_43 : decode cX8_weighs 43 = .ok (.aload_n 0, 1) := by decide +kernel
theorem dX8_weighs_44 : decode cX8_weighs 44 = .ok (.iload_n 1, 1) := by decide +kernel
theorem dX8_weighs_45 : decode cX8_weighs 45 = .ok (.putfield 256, 3) := by decide +kernel
theorem dX8_weighs_48 : decode cX8_weighs 48 = .ok (.aload_n 0, 1) := by decide +kernel
theorem dX8_weighs_49 : decode cX8_weighs 49 = .ok (.aload_n 0, 1) := by decide +kernel
theorem dX8_weighs_50 : decode cX8_weighs 50 = .ok (.bipush 25, 2) := by decide +kernel
theorem dX8_weighs_52 : decode cX8_weighs 52 = .ok (.invokevirtual 179, 3) := by decide +kernel
theorem dX8_weighs_55 : decode cX8_weighs 55 = .ok (.putfield 259, 3) := by decide +kernel
theorem dX8_weighs_58 : decode cX8_weighs 58 = .ok (.aload_n 0, 1) := by decide +kernel
theorem dX8_weighs_59 : decode cX8_weighs 59 = .ok (.aload_n 0, 1) := by decide +kernel
theorem dX8_weighs_60 : decode cX8_weighs 60 = .ok (.bipush 20, 2) := by decide +kernel
theorem dX8_weighs_62 : decode cX8_weighs 62 = .ok (.invokevirtual 179, 3) := by decide +kernel
theorem dX8_weighs_65 : decode cX8_weighs 65 = .ok (.putfield 262, 3) := by decide +kernel
theorem dX8_weighs_68 : decode cX8_weighs 68 = .ok (.return_, 1) := by decide +kernel
theorem dX8_allPacks_0 : decode cX8_allPacks 0 = .ok (.aload_n 0, 1) := by decide +kernel
theorem dX8_allPacks_1 : decode cX8_allPacks 1 = .ok (.bipush 20, 2) := by decide +kernel
theorem dX8_allPacks_3 : decode cX8_allPacks 3 = .ok (.invokevirtual 179, 3) := by decide +kernel
theorem dX8_allPacks_6 : decode cX8_allPacks 6 = .ok (.istore_n 1, 1) := by decide +kernel
theorem dX8_allPacks_7 : decode cX8_allPacks 7 = .ok (.iconst 0, 1) := by decide +kernel
theorem dX8_allPacks_8 : decode cX8_allPacks 8 = .ok (.istore_n 2, 1) := by decide +kernel
theorem dX8_allPacks_9 : decode cX8_allPacks 9 = .ok (.iload_n 2, 1) := by decide +kernel
theorem dX8_allPacks_10 : decode cX8_allPacks 10 = .ok (.aload_n 0, 1) := by decide +kernel
theorem dX8_allPacks_11 : decode cX8_allPacks 11 = .ok (.invokevirtual 265, 3) := by decide +kernel
theorem dX8_allPacks_14 : decode cX8_allPacks 14 = .ok (.if_icmp .ge 23, 3) := by decide +kernel
theorem dX8_allPacks_17 : decode cX8_allPacks 17 = .ok (.aload_n 0, 1) := by decide +kernel
theorem dX8_allPacks_18 : decode cX8_allPacks 18 = .ok (.bipush 20, 2) := by decide +kernel
theorem dX8_allPacks_20 : decode cX8_allPacks 20 = .ok (.iload_n 2, 1) := by decide +kernel
theorem dX8_allPacks_21 : decode cX8_allPacks 21 = .ok (.invokevirtual 268, 3) := by decide +kernel
theorem dX8_allPacks_24 : decode cX8_allPacks 24 = .ok (.ifCond .eq 7, 3) := by decide +kernel
theorem dX8_allPacks_27 : decode cX8_allPacks 27 = .ok (.aload_n 0, 1) := by decide +kernel
theorem dX8_allPacks_28 : decode cX8_allPacks 28 = .ok (.invokevirtual 272, 3) := by decide +kernel
theorem dX8_allPacks_31 : decode cX8_allPacks 31 = .ok (.iinc 2 1, 3) := by decide +kernel
theorem dX8_allPacks_34 : decode cX8_allPacks 34 = .ok (.goto (-25), 3) := by decide +kernel
theorem dX8_allPacks_37 : decode cX8_allPacks 37 = .ok (.aload_n 0, 1) := by decide +kernel
theorem dX8_allPacks_38 : decode cX8_allPacks 38 = .ok (.bipush 20, 2) := by decide +kernel
theorem dX8_allPacks_40 : decode cX8_allPacks 40 = .ok (.iload_n 1, 1) := by decide +kernel
theorem dX8_allPacks_41 : decode cX8_allPacks 41 = .ok (.invokevirtual 268, 3) := by decide +kernel
theorem dX8_allPacks_44 : decode cX8_allPacks 44 = .ok (.pop, 1) := by decide +kernel
theorem dX8_allPacks_45 : decode cX8_allPacks 45 = .ok (.return_, 1) := by decide +kernel
theorem dX8_best_0 : decode cX8_best 0 = .ok (.iload_n 1, 1) := by decide +kernel
theorem dX8_best_1 : decode cX8_best 1 = .ok (.i2l, 1) := by decide +kernel
theorem dX8_best_2 : decode cX8_best 2 = .ok (.lconst 0, 1) := by decide +kernel
theorem dX8_best_3 : decode cX8_best 3 = .ok (.ldc2_w 275, 3) := by decide +kernel
theorem dX8_best_6 : decode cX8_best 6 = .ok (.invokestatic 70, 3) := by decide +kernel
theorem dX8_best_9 : decode cX8_best 9 = .ok (.ifCond .ne 5, 3) := by decide +kernel
theorem dX8_best_12 : decode cX8_best 12 = .ok (.iconst (-1), 1) := by decide +kernel
