theorem dX7_read_163 : decode cX7_read 163 = .ok (.getfield 66, 3) := by decide +kernel
theorem dX7_read_166 : decode cX7_read 166 = .ok (.iload_n 1, 1) := by decide +kernel
theorem dX7_read_167 : decode cX7_read 167 = .ok (.iload_n 3, 1) := by decide +kernel
theorem dX7_read_168 : decode cX7_read 168 = .ok (.iconst 2, 1) := by decide +kernel
theorem dX7_read_169 : decode cX7_read 169 = .ok (.iload 7, 2) := by decide +kernel
theorem dX7_read_171 : decode cX7_read 171 = .ok (.imul, 1) := by decide +kernel
theorem dX7_read_172 : decode cX7_read 172 = .ok (.iadd, 1) := by decide +kernel
theorem dX7_read_173 : decode cX7_read 173 = .ok (.iconst 1, 1) := by decide +kernel
theorem dX7_read_174 : decode cX7_read 174 = .ok (.iadd, 1) := by decide +kernel
theorem dX7_read_175 : decode cX7_read 175 = .ok (.invokevirtual 313, 3) := by decide +kernel
theorem dX7_read_178 : decode cX7_read 178 = .ok (.invokevirtual 148, 3) := by decide +kernel
theorem dX7_read_181 : decode cX7_read 181 = .ok (.pop, 1) := by decide +kernel
theorem dX7_read_182 : decode cX7_read 182 = .ok (.iinc 7 1, 3) := by decide +kernel
theorem dX7_read_185 : decode cX7_read 185 = .ok (.goto (-52), 3) := by decide +kernel
theorem dX7_read_188 : decode cX7_read 188 = .ok (.aload_n 0, 1) := by decide +kernel
theorem dX7_read_189 : decode cX7_read 189 = .ok (.iload 5, 2) := by decide +kernel
theorem dX7_read_191 : decode cX7_read 191 = .ok (.putfield 316, 3) := by decide +kernel
theorem dX7_read_194 : decode cX7_read 194 = .ok (.iload 6, 2) := by decide +kernel
theorem dX7_read_196 : decode cX7_read 196 = .ok (.ireturn, 1) := by decide +kernel
theorem dX7_torn_0 : decode cX7_torn 0 = .ok (.aload_n 0, 1) := by decide +kernel
theorem dX7_torn_1 : decode cX7_torn 1 = .ok (.getfield 316, 3) := by decide +kernel
theorem dX7_torn_4 : decode cX7_torn 4 = .ok (.ireturn, 1) := by decide +kernel
theorem dX7_count_0 : decode cX7_count 0 = .ok (.iload_n 1, 1) := by decide +kernel
theorem dX7_count_1 : decode cX7_count 1 = .ok (.tableswitch 138 0 5 #[39, 47, 77, 85, 112, 121], 39) := by decide +kernel
theorem dX7_count_40 : decode cX7_count 40 = .ok (.aload_n 0, 1) := by decide +kernel
theorem dX7_count_41 : decode cX7_count 41 = .ok (.getfield 51, 3) := by decide +kernel
theorem dX7_count_44 : decode cX7_count 44 = .ok (.getfield 100, 3) := by decide +kernel
theorem dX7_count_47 : decode cX7_count 47 = .ok (.ireturn, 1) := by decide +kernel
theorem dX7_count_48 : decode cX7_count 48 = .ok (.aload_n 0, 1) := by decide +kernel
theorem dX7_count_49 : decode cX7_count 49 = .ok (.getfield 59, 3) := by decide +kernel
theorem dX7_count_52 : decode cX7_count 52 = .ok (.iconst 0, 1) := by decide +kernel
theorem dX7_count_53 : decode cX7_count 53 = .ok (.baload, 1) := by decide +kernel
theorem dX7_count_54 : decode cX7_count 54 = .ok (.ifCond .eq 7, 3) := by decide +kernel
theorem dX7_count_57 : decode cX7_count 57 = .ok (.iconst 1, 1) := by decide +kernel
theorem dX7_count_58 : decode cX7_count 58 = .ok (.goto 4, 3) := by decide +kernel
theorem dX7_count_61 : decode cX7_count 61 = .ok (.iconst 0, 1) := by decide +kernel
theorem dX7_count_62 : decode cX7_count 62 = .ok (.aload_n 0, 1) := by decide +kernel
theorem dX7_count_63 : decode cX7_count 63 = .ok (.getfield 59, 3) := by decide +kernel
theorem dX7_count_66 : decode cX7_count 66 = .ok (.iconst 1, 1) := by decide +kernel
theorem dX7_count_67 : decode cX7_count 67 = .ok (.baload, 1) := by decide +kernel
theorem dX7_count_68 : decode cX7_count 68 = .ok (.ifCond .eq 7, 3) := by decide +kernel
theorem dX7_count_71 : decode cX7_count 71 = .ok (.iconst 1, 1) := by decide +kernel
theorem dX7_count_72 : decode cX7_count 72 = .ok (.goto 4, 3) := by decide +kernel
theorem dX7_count_75 : decode cX7_count 75 = .ok (.iconst 0, 1) := by decide +kernel
theorem dX7_count_76 : decode cX7_count 76 = .ok (.iadd, 1) := by decide +kernel
theorem dX7_count_77 : decode cX7_count 77 = .ok (.ireturn, 1) := by decide +kernel
theorem dX7_count_78 : decode cX7_count 78 = .ok (.aload_n 0, 1) := by decide +kernel
theorem dX7_count_79 : decode cX7_count 79 = .ok (.getfield 10, 3) := by decide +kernel
theorem dX7_count_82 : decode cX7_count 82 = .ok (.getfield 74, 3) := by decide +kernel
theorem dX7_count_85 : decode cX7_count 85 = .ok (.ireturn, 1) := by decide +kernel
theorem dX7_count_86 : decode cX7_count 86 = .ok (.aload_n 0, 1) := by decide +kernel
theorem dX7_count_87 : decode cX7_count 87 = .ok (.getfield 66, 3) := by decide +kernel
theorem dX7_count_90 : decode cX7_count 90 = .ok (.getfield 319, 3) := by decide +kernel
theorem dX7_count_93 : decode cX7_count 93 = .ok (.iconst 0, 1) := by decide +kernel
theorem dX7_count_94 : decode cX7_count 94 = .ok (.iaload, 1) := by decide +kernel
theorem dX7_count_95 : decode cX7_count 95 = .ok (.ifCond .ge 8, 3) := by decide +kernel
theorem dX7_count_98 : decode cX7_count 98 = .ok (.bipush (-4), 2) := by decide +kernel
theorem dX7_count_100 : decode cX7_count 100 = .ok (.goto 12, 3) := by decide +kernel
theorem dX7_count_103 : decode cX7_count 103 = .ok (.aload_n 0, 1) := by decide +kernel
theorem dX7_count_104 : decode cX7_count 104 = .ok (.getfield 66, 3) := by decide +kernel
theorem dX7_count_107 : decode cX7_count 107 = .ok (.getfield 319, 3) := by decide +kernel
theorem dX7_count_110 : decode cX7_count 110 = .ok (.iconst 0, 1) := by decide +kernel
theorem dX7_count_111 : decode cX7_count 111 = .ok (.iaload, 1) := by decide +kernel
theorem dX7_count_112 : decode cX7_count 112 = .ok (.ireturn, 1) := by decide +kernel
theorem dX7_count_113 : decode cX7_count 113 = .ok (.aload_n 0, 1) := by decide +kernel
theorem dX7_count_114 : decode cX7_count 114 = .ok (.getfield 19, 3) := by decide +kernel
theorem dX7_count_117 : decode cX7_count 117 = .ok (.iconst 3, 1) := by decide +kernel
theorem dX7_count_118 : decode cX7_count 118 = .ok (.invokevirtual 129, 3) := by decide +kernel
theorem dX7_count_121 : decode cX7_count 121 = .ok (.ireturn, 1) := by decide +kernel
theorem dX7_count_122 : decode cX7_count 122 = .ok (.aload_n 0, 1) := by decide +kernel
theorem dX7_count_123 : decode cX7_count 123 = .ok (.getfield 19, 3) := by decide +kernel
theorem dX7_count_126 : decode cX7_count 126 = .ok (.iconst 0, 1) := by decide +kernel
theorem dX7_count_127 : decode cX7_count 127 = .ok (.aload_n 0, 1) := by decide +kernel
theorem dX7_count_128 : decode cX7_count 128 = .ok (.getfield 19, 3) := by decide +kernel
theorem dX7_count_131 : decode cX7_count 131 = .ok (.getfield 106, 3) := by decide +kernel
theorem dX7_count_134 : decode cX7_count 134 = .ok (.iconst 0, 1) := by decide +kernel
theorem dX7_count_135 : decode cX7_count 135 = .ok (.invokevirtual 158, 3) := by decide +kernel
theorem dX7_count_138 : decode cX7_count 138 = .ok (.ireturn, 1) := by decide +kernel
theorem dX7_count_139 : decode cX7_count 139 = .ok (.iconst (-1), 1) := by decide +kernel
theorem dX7_count_140 : decode cX7_count 140 = .ok (.ireturn, 1) := by decide +kernel
theorem dX7_isOrder_0 : decode cX7_isOrder 0 = .ok (.iload_n 1, 1) := by decide +kernel
theorem dX7_isOrder_1 : decode cX7_isOrder 1 = .ok (.iconst 0, 1) := by decide +kernel
theorem dX7_isOrder_2 : decode cX7_isOrder 2 = .ok (.aload_n 0, 1) := by decide +kernel
theorem dX7_isOrder_3 : decode cX7_isOrder 3 = .ok (.getfield 19, 3) := by decide +kernel
theorem dX7_isOrder_6 : decode cX7_isOrder 6 = .ok (.getfield 109, 3) := by decide +kernel
theorem dX7_isOrder_9 : decode cX7_isOrder 9 = .ok (.iconst 1, 1) := by decide +kernel
theorem dX7_isOrder_10 : decode cX7_isOrder 10 = .ok (.isub, 1) := by decide +kernel
theorem dX7_isOrder_11 : decode cX7_isOrder 11 = .ok (.invokestatic 70, 3) := by decide +kernel
theorem dX7_isOrder_14 : decode cX7_isOrder 14 = .ok (.ireturn, 1) := by decide +kernel
theorem dX7_allBits_0 : decode cX7_allBits 0 = .ok (.iconst 1, 1) := by decide +kernel
theorem dX7_allBits_1 : decode cX7_allBits 1 = .ok (.aload_n 0, 1) := by decide +kernel
theorem dX7_allBits_2 : decode cX7_allBits 2 = .ok (.getfield 19, 3) := by decide +kernel
theorem dX7_allBits_5 : decode cX7_allBits 5 = .ok (.getfield 109, 3) := by decide +kernel
theorem dX7_allBits_8 : decode cX7_allBits 8 = .ok (.ishl, 1) := by decide +kernel
theorem dX7_allBits_9 : decode cX7_allBits 9 = .ok (.iconst 1, 1) := by decide +kernel
theorem dX7_allBits_10 : decode cX7_allBits 10 = .ok (.isub, 1) := by decide +kernel
theorem dX7_allBits_11 : decode cX7_allBits 11 = .ok (.ireturn, 1) := by decide +kernel
theorem dX7_exchangeOrders_0 : decode cX7_exchangeOrders 0 = .ok (.aload_n 0, 1) := by decide +kernel
theorem dX7_exchangeOrders_1 : decode cX7_exchangeOrders 1 = .ok (.iload_n 2, 1) := by decide +kernel
theorem dX7_exchangeOrders_2 : decode cX7_exchangeOrders 2 = .ok (.invokevirtual 137, 3) := by decide +kernel
theorem dX7_exchangeOrders_5 : decode cX7_exchangeOrders 5 = .ok (.ifCond .eq 11, 3) := by decide +kernel
theorem dX7_exchangeOrders_8 : decode cX7_exchangeOrders 8 = .ok (.aload_n 0, 1) := by decide +kernel
theorem dX7_exchangeOrders_9 : decode cX7_exchangeOrders 9 = .ok (.iload_n 3, 1) := by decide +kernel
theorem dX7_exchangeOrders_10 : decode cX7_exchangeOrders 10 = .ok (.invokevirtual 137, 3) := by decide +kernel
theorem dX7_exchangeOrders_13 : decode cX7_exchangeOrders 13 = .ok (.ifCond .ne 5, 3) := by decide +kernel
theorem dX7_exchangeOrders_16 : decode cX7_exchangeOrders 16 = .ok (.iconst (-1), 1) := by decide +kernel
theorem dX7_exchangeOrders_17 : decode cX7_exchangeOrders 17 = .ok (.ireturn, 1) := by decide +kernel
theorem dX7_exchangeOrders_18 : decode cX7_exchangeOrders 18 = .ok (.aload_n 0, 1) := by decide +kernel
theorem dX7_exchangeOrders_19 : decode cX7_exchangeOrders 19 = .ok (.getfield 19, 3) := by decide +kernel
theorem dX7_exchangeOrders_22 : decode cX7_exchangeOrders 22 = .ok (.getfield 109, 3) := by decide +kernel
theorem dX7_exchangeOrders_25 : decode cX7_exchangeOrders 25 = .ok (.istore 4, 2) := by decide +kernel
theorem dX7_exchangeOrders_27 : decode cX7_exchangeOrders 27 = .ok (.aload_n 1, 1) := by decide +kernel
theorem dX7_exchangeOrders_28 : decode cX7_exchangeOrders 28 = .ok (.iload 4, 2) := by decide +kernel
theorem dX7_exchangeOrders_30 : decode cX7_exchangeOrders 30 = .ok (.iload_n 2, 1) := by decide +kernel
theorem dX7_exchangeOrders_31 : decode cX7_exchangeOrders 31 = .ok (.invokestatic 144, 3) := by decide +kernel
theorem dX7_exchangeOrders_34 : decode cX7_exchangeOrders 34 = .ok (.istore 5, 2) := by decide +kernel
theorem dX7_exchangeOrders_36 : decode cX7_exchangeOrders 36 = .ok (.aload_n 1, 1) := by decide +kernel
theorem dX7_exchangeOrders_37 : decode cX7_exchangeOrders 37 = .ok (.iload 4, 2) := by decide +kernel
theorem dX7_exchangeOrders_39 : decode cX7_exchangeOrders 39 = .ok (.iload_n 3, 1) := by decide +kernel
theorem dX7_exchangeOrders_40 : decode cX7_exchangeOrders 40 = .ok (.invokestatic 144, 3) := by decide +kernel
theorem dX7_exchangeOrders_43 : decode cX7_exchangeOrders 43 = .ok (.istore 6, 2) := by decide +kernel
theorem dX7_exchangeOrders_45 : decode cX7_exchangeOrders 45 = .ok (.aload_n 1, 1) := by decide +kernel
theorem dX7_exchangeOrders_46 : decode cX7_exchangeOrders 46 = .ok (.iload 5, 2) := by decide +kernel
theorem dX7_exchangeOrders_48 : decode cX7_exchangeOrders 48 = .ok (.iload_n 3, 1) := by decide +kernel
theorem dX7_exchangeOrders_49 : decode cX7_exchangeOrders 49 = .ok (.iastore, 1) := by decide +kernel
theorem dX7_exchangeOrders_50 : decode cX7_exchangeOrders 50 = .ok (.aload_n 1, 1) := by decide +kernel
theorem dX7_exchangeOrders_51 : decode cX7_exchangeOrders 51 = .ok (.iload 6, 2) := by decide +kernel
theorem dX7_exchangeOrders_53 : decode cX7_exchangeOrders 53 = .ok (.iload_n 2, 1) := by decide +kernel
theorem dX7_exchangeOrders_54 : decode cX7_exchangeOrders 54 = .ok (.iastore, 1) := by decide +kernel
theorem dX7_exchangeOrders_55 : decode cX7_exchangeOrders 55 = .ok (.aload_n 1, 1) := by decide +kernel
theorem dX7_exchangeOrders_56 : decode cX7_exchangeOrders 56 = .ok (.iload 4, 2) := by decide +kernel
theorem dX7_exchangeOrders_58 : decode cX7_exchangeOrders 58 = .ok (.invokestatic 122, 3) := by decide +kernel
theorem dX7_exchangeOrders_61 : decode cX7_exchangeOrders 61 = .ok (.ireturn, 1) := by decide +kernel
theorem dX7_bringAhead_0 : decode cX7_bringAhead 0 = .ok (.aload_n 0, 1) := by decide +kernel
theorem dX7_bringAhead_1 : decode cX7_bringAhead 1 = .ok (.iload_n 2, 1) := by decide +kernel
theorem dX7_bringAhead_2 : decode cX7_bringAhead 2 = .ok (.invokevirtual 137, 3) := by decide +kernel
theorem dX7_bringAhead_5 : decode cX7_bringAhead 5 = .ok (.ifCond .ne 5, 3) := by decide +kernel
theorem dX7_bringAhead_8 : decode cX7_bringAhead 8 = .ok (.iconst (-1), 1) := by decide +kernel
theorem dX7_bringAhead_9 : decode cX7_bringAhead 9 = .ok (.ireturn, 1) := by decide +kernel
theorem dX7_bringAhead_10 : decode cX7_bringAhead 10 = .ok (.aload_n 1, 1) := by decide +kernel
theorem dX7_bringAhead_11 : decode cX7_bringAhead 11 = .ok (.aload_n 0, 1) := by decide +kernel
theorem dX7_bringAhead_12 : decode cX7_bringAhead 12 = .ok (.getfield 19, 3) := by decide +kernel
theorem dX7_bringAhead_15 : decode cX7_bringAhead 15 = .ok (.getfield 109, 3) := by decide +kernel
theorem dX7_bringAhead_18 : decode cX7_bringAhead 18 = .ok (.iload_n 2, 1) := by decide +kernel
theorem dX7_bringAhead_19 : decode cX7_bringAhead 19 = .ok (.invokestatic 283, 3) := by decide +kernel
theorem dX7_bringAhead_22 : decode cX7_bringAhead 22 = .ok (.aload_n 1, 1) := by decide +kernel
theorem dX7_bringAhead_23 : decode cX7_bringAhead 23 = .ok (.aload_n 0, 1) := by decide +kernel
theorem dX7_bringAhead_24 : decode cX7_bringAhead 24 = .ok (.getfield 19, 3) := by decide +kernel
theorem dX7_bringAhead_27 : decode cX7_bringAhead 27 = .ok (.getfield 109, 3) := by decide +kernel
theorem dX7_bringAhead_30 : decode cX7_bringAhead 30 = .ok (.invokestatic 122, 3) := by decide +kernel
theorem dX7_bringAhead_33 : decode cX7_bringAhead 33 = .ok (.ireturn, 1) := by decide +kernel
theorem dX7_changeOrder_0 : decode cX7_changeOrder 0 = .ok (.aload_n 0, 1) := by decide +kernel
theorem dX7_changeOrder_1 : decode cX7_changeOrder 1 = .ok (.iload_n 1, 1) := by decide +kernel
theorem dX7_changeOrder_2 : decode cX7_changeOrder 2 = .ok (.invokevirtual 137, 3) := by decide +kernel
theorem dX7_changeOrder_5 : decode cX7_changeOrder 5 = .ok (.ifCond .eq 18, 3) := by decide +kernel
theorem dX7_changeOrder_8 : decode cX7_changeOrder 8 = .ok (.iload_n 3, 1) := by decide +kernel
theorem dX7_changeOrder_9 : decode cX7_changeOrder 9 = .ok (.iload_n 2, 1) := by decide +kernel
theorem dX7_changeOrder_10 : decode cX7_changeOrder 10 = .ok (.invokestatic 322, 3) := by decide +kernel
theorem dX7_changeOrder_13 : decode cX7_changeOrder 13 = .ok (.iload_n 2, 1) := by decide +kernel
theorem dX7_changeOrder_14 : decode cX7_changeOrder 14 = .ok (.invokestatic 325, 3) := by decide +kernel
theorem dX7_changeOrder_17 : decode cX7_changeOrder 17 = .ok (.invokestatic 70, 3) := by decide +kernel
theorem dX7_changeOrder_20 : decode cX7_changeOrder 20 = .ok (.ifCond .ne 5, 3) := by decide +kernel
theorem dX7_changeOrder_23 : decode cX7_changeOrder 23 = .ok (.iconst (-1), 1) := by decide +kernel
theorem dX7_changeOrder_24 : decode cX7_changeOrder 24 = .ok (.ireturn, 1) := by decide +kernel
theorem dX7_changeOrder_25 : decode cX7_changeOrder 25 = .ok (.aload_n 0, 1) := by decide +kernel
theorem dX7_changeOrder_26 : decode cX7_changeOrder 26 = .ok (.getfield 19, 3) := by decide +kernel
theorem dX7_changeOrder_29 : decode cX7_changeOrder 29 = .ok (.iload_n 1, 1) := by decide +kernel
theorem dX7_changeOrder_30 : decode cX7_changeOrder 30 = .ok (.iload_n 2, 1) := by decide +kernel
theorem dX7_changeOrder_31 : decode cX7_changeOrder 31 = .ok (.invokevirtual 141, 3) := by decide +kernel
theorem dX7_changeOrder_34 : decode cX7_changeOrder 34 = .ok (.istore 4, 2) := by decide +kernel
theorem dX7_changeOrder_36 : decode cX7_changeOrder 36 = .ok (.aload_n 0, 1) := by decide +kernel
theorem dX7_changeOrder_37 : decode cX7_changeOrder 37 = .ok (.getfield 19, 3) := by decide +kernel
theorem dX7_changeOrder_40 : decode cX7_changeOrder 40 = .ok (.getfield 328, 3) := by decide +kernel
theorem dX7_changeOrder_43 : decode cX7_changeOrder 43 = .ok (.iload_n 1, 1) := by decide +kernel
theorem dX7_changeOrder_44 : decode cX7_changeOrder 44 = .ok (.iconst 5, 1) := by decide +kernel
theorem dX7_changeOrder_45 : decode cX7_changeOrder 45 = .ok (.imul, 1) := by decide +kernel
theorem dX7_changeOrder_46 : decode cX7_changeOrder 46 = .ok (.iload_n 2, 1) := by decide +kernel
theorem dX7_changeOrder_47 : decode cX7_changeOrder 47 = .ok (.iadd, 1) := by decide +kernel
theorem dX7_changeOrder_48 : decode cX7_changeOrder 48 = .ok (.iload_n 3, 1) := by decide +kernel
theorem dX7_changeOrder_49 : decode cX7_changeOrder 49 = .ok (.iastore, 1) := by decide +kernel
theorem dX7_changeOrder_50 : decode cX7_changeOrder 50 = .ok (.iload 4, 2) := by decide +kernel
theorem dX7_changeOrder_52 : decode cX7_changeOrder 52 = .ok (.ireturn, 1) := by decide +kernel
theorem dX7_goRound_0 : decode cX7_goRound 0 = .ok (.aload_n 0, 1) := by decide +kernel
theorem dX7_goRound_1 : decode cX7_goRound 1 = .ok (.aload_n 0, 1) := by decide +kernel
theorem dX7_goRound_2 : decode cX7_goRound 2 = .ok (.invokevirtual 204, 3) := by decide +kernel
theorem dX7_goRound_5 : decode cX7_goRound 5 = .ok (.aload_n 0, 1) := by decide +kernel
theorem dX7_goRound_6 : decode cX7_goRound 6 = .ok (.getfield 19, 3) := by decide +kernel
theorem dX7_goRound_9 : decode cX7_goRound 9 = .ok (.getfield 115, 3) := by decide +kernel
theorem dX7_goRound_12 : decode cX7_goRound 12 = .ok (.invokevirtual 252, 3) := by decide +kernel
theorem dX7_goRound_15 : decode cX7_goRound 15 = .ok (.pop, 1) := by decide +kernel
theorem dX7_goRound_16 : decode cX7_goRound 16 = .ok (.return_, 1) := by decide +kernel
theorem dX7_goSome_0 : decode cX7_goSome 0 = .ok (.aload_n 0, 1) := by decide +kernel
theorem dX7_goSome_1 : decode cX7_goSome 1 = .ok (.getfield 37, 3) := by decide +kernel
theorem dX7_goSome_4 : decode cX7_goSome 4 = .ok (.iload_n 1, 1) := by decide +kernel
theorem dX7_goSome_5 : decode cX7_goSome 5 = .ok (.iload_n 2, 1) := by decide +kernel
theorem dX7_goSome_6 : decode cX7_goSome 6 = .ok (.invokevirtual 208, 3) := by decide +kernel
theorem dX7_goSome_9 : decode cX7_goSome 9 = .ok (.aload_n 0, 1) := by decide +kernel
theorem dX7_goSome_10 : decode cX7_goSome 10 = .ok (.getfield 37, 3) := by decide +kernel
theorem dX7_goSome_13 : decode cX7_goSome 13 = .ok (.invokevirtual 212, 3) := by decide +kernel
theorem dX7_goSome_16 : decode cX7_goSome 16 = .ok (.aload_n 0, 1) := by decide +kernel
theorem dX7_goSome_17 : decode cX7_goSome 17 = .ok (.getfield 37, 3) := by decide +kernel
theorem dX7_goSome_20 : decode cX7_goSome 20 = .ok (.invokevirtual 244, 3) := by decide +kernel
theorem dX7_goSome_23 : decode cX7_goSome 23 = .ok (.aload_n 0, 1) := by decide +kernel
theorem dX7_goSome_24 : decode cX7_goSome 24 = .ok (.getfield 37, 3) := by decide +kernel
theorem dX7_goSome_27 : decode cX7_goSome 27 = .ok (.invokevirtual 224, 3) := by decide +kernel
theorem dX7_goSome_30 : decode cX7_goSome 30 = .ok (.aload_n 0, 1) := by decide +kernel
theorem dX7_goSome_31 : decode cX7_goSome 31 = .ok (.getfield 37, 3) := by decide +kernel
theorem dX7_goSome_34 : decode cX7_goSome 34 = .ok (.getfield 177, 3) := by decide +kernel
theorem dX7_goSome_37 : decode cX7_goSome 37 = .ok (.ireturn, 1) := by decide +kernel
theorem dX7_goTwice_0 : decode cX7_goTwice 0 = .ok (.aload_n 0, 1) := by decide +kernel
theorem dX7_goTwice_1 : decode cX7_goTwice 1 = .ok (.iload_n 1, 1) := by decide +kernel
theorem dX7_goTwice_2 : decode cX7_goTwice 2 = .ok (.aload_n 0, 1) := by decide +kernel
theorem dX7_goTwice_3 : decode cX7_goTwice 3 = .ok (.getfield 19, 3) := by decide +kernel
theorem dX7_goTwice_6 : decode cX7_goTwice 6 = .ok (.getfield 115, 3) := by decide +kernel
theorem dX7_goTwice_9 : decode cX7_goTwice 9 = .ok (.invokevirtual 252, 3) := by decide +kernel
theorem dX7_goTwice_12 : decode cX7_goTwice 12 = .ok (.istore_n 2, 1) := by decide +kernel
theorem dX7_goTwice_13 : decode cX7_goTwice 13 = .ok (.iload_n 2, 1) := by decide +kernel
theorem dX7_goTwice_14 : decode cX7_goTwice 14 = .ok (.aload_n 0, 1) := by decide +kernel
theorem dX7_goTwice_15 : decode cX7_goTwice 15 = .ok (.aload_n 0, 1) := by decide +kernel
theorem dX7_goTwice_16 : decode cX7_goTwice 16 = .ok (.invokevirtual 204, 3) := by decide +kernel
theorem dX7_goTwice_19 : decode cX7_goTwice 19 = .ok (.iload_n 1, 1) := by decide +kernel
theorem dX7_goTwice_20 : decode cX7_goTwice 20 = .ok (.iconst (-1), 1) := by decide +kernel
theorem dX7_goTwice_21 : decode cX7_goTwice 21 = .ok (.ixor, 1) := by decide +kernel
theorem dX7_goTwice_22 : decode cX7_goTwice 22 = .ok (.iand, 1) := by decide +kernel
theorem dX7_goTwice_23 : decode cX7_goTwice 23 = .ok (.aload_n 0, 1) := by decide +kernel
theorem dX7_goTwice_24 : decode cX7_goTwice 24 = .ok (.getfield 37, 3) := by decide +kernel
theorem dX7_goTwice_27 : decode cX7_goTwice 27 = .ok (.getfield 168, 3) := by decide +kernel
theorem dX7_goTwice_30 : decode cX7_goTwice 30 = .ok (.invokevirtual 252, 3) := by decide +kernel
theorem dX7_goTwice_33 : decode cX7_goTwice 33 = .ok (.iadd, 1) := by decide +kernel
theorem dX7_goTwice_34 : decode cX7_goTwice 34 = .ok (.ireturn, 1) := by decide +kernel
theorem dX7_takeRoundsFromFirst_0 : decode cX7_takeRoundsFromFirst 0 = .ok (.aload_n 0, 1) := by decide +kernel
theorem dX7_takeRoundsFromFirst_1 : decode cX7_takeRoundsFromFirst 1 = .ok (.getfield 37, 3) := by decide +kernel
theorem dX7_takeRoundsFromFirst_4 : decode cX7_takeRoundsFromFirst 4 = .ok (.aload_n 0, 1) := by decide +kernel
theorem dX7_takeRoundsFromFirst_5 : decode cX7_takeRoundsFromFirst 5 = .ok (.invokevirtual 204, 3) := by decide +kernel
theorem dX7_takeRoundsFromFirst_8 : decode cX7_takeRoundsFromFirst 8 = .ok (.aload_n 0, 1) := by decide +kernel
theorem dX7_takeRoundsFromFirst_9 : decode cX7_takeRoundsFromFirst 9 = .ok (.getfield 19, 3) := by decide +kernel
theorem dX7_takeRoundsFromFirst_12 : decode cX7_takeRoundsFromFirst 12 = .ok (.getfield 115, 3) := by decide +kernel
theorem dX7_takeRoundsFromFirst_15 : decode cX7_takeRoundsFromFirst 15 = .ok (.invokevirtual 208, 3) := by decide +kernel
theorem dX7_takeRoundsFromFirst_18 : decode cX7_takeRoundsFromFirst 18 = .ok (.aload_n 0, 1) := by decide +kernel
theorem dX7_takeRoundsFromFirst_19 : decode cX7_takeRoundsFromFirst 19 = .ok (.getfield 37, 3) := by decide +kernel
theorem dX7_takeRoundsFromFirst_22 : decode cX7_takeRoundsFromFirst 22 = .ok (.invokevirtual 244, 3) := by decide +kernel
theorem dX7_takeRoundsFromFirst_25 : decode cX7_takeRoundsFromFirst 25 = .ok (.aload_n 0, 1) := by decide +kernel
theorem dX7_takeRoundsFromFirst_26 : decode cX7_takeRoundsFromFirst 26 = .ok (.getfield 37, 3) := by decide +kernel
theorem dX7_takeRoundsFromFirst_29 : decode cX7_takeRoundsFromFirst 29 = .ok (.getfield 227, 3) := by decide +kernel
theorem dX7_takeRoundsFromFirst_32 : decode cX7_takeRoundsFromFirst 32 = .ok (.aload_n 0, 1) := by decide +kernel
theorem dX7_takeRoundsFromFirst_33 : decode cX7_takeRoundsFromFirst 33 = .ok (.getfield 19, 3) := by decide +kernel
theorem dX7_takeRoundsFromFirst_36 : decode cX7_takeRoundsFromFirst 36 = .ok (.getfield 109, 3) := by decide +kernel
theorem dX7_takeRoundsFromFirst_39 : decode cX7_takeRoundsFromFirst 39 = .ok (.invokestatic 331, 3) := by decide +kernel
theorem dX7_takeRoundsFromFirst_42 : decode cX7_takeRoundsFromFirst 42 = .ok (.return_, 1) := by decide +kernel
theorem dX7_findBest_0 : decode cX7_findBest 0 = .ok (.aload_n 0, 1) := by decide +kernel
theorem dX7_findBest_1 : decode cX7_findBest 1 = .ok (.getfield 19, 3) := by decide +kernel
theorem dX7_findBest_4 : decode cX7_findBest 4 = .ok (.getfield 109, 3) := by decide +kernel
theorem dX7_findBest_7 : decode cX7_findBest 7 = .ok (.istore_n 1, 1) := by decide +kernel
theorem dX7_findBest_8 : decode cX7_findBest 8 = .ok (.iload_n 1, 1) := by decide +kernel
theorem dX7_findBest_9 : decode cX7_findBest 9 = .ok (.invokestatic 218, 3) := by decide +kernel
theorem dX7_findBest_12 : decode cX7_findBest 12 = .ok (.istore_n 2, 1) := by decide +kernel
theorem dX7_findBest_13 : decode cX7_findBest 13 = .ok (.aload_n 0, 1) := by decide +kernel
theorem dX7_findBest_14 : decode cX7_findBest 14 = .ok (.getfield 44, 3) := by decide +kernel
theorem dX7_findBest_17 : decode cX7_findBest 17 = .ok (.invokevirtual 201, 3) := by decide +kernel
theorem dX7_findBest_20 : decode cX7_findBest 20 = .ok (.aload_n 0, 1) := by decide +kernel
theorem dX7_findBest_21 : decode cX7_findBest 21 = .ok (.getfield 37, 3) := by decide +kernel
theorem dX7_findBest_24 : decode cX7_findBest 24 = .ok (.aload_n 0, 1) := by decide +kernel
theorem dX7_findBest_25 : decode cX7_findBest 25 = .ok (.invokevirtual 204, 3) := by decide +kernel
theorem dX7_findBest_28 : decode cX7_findBest 28 = .ok (.aload_n 0, 1) := by decide +kernel
theorem dX7_findBest_29 : decode cX7_findBest 29 = .ok (.getfield 19, 3) := by decide +kernel
theorem dX7_findBest_32 : decode cX7_findBest 32 = .ok (.getfield 115, 3) := by decide +kernel
theorem dX7_findBest_35 : decode cX7_findBest 35 = .ok (.invokevirtual 208, 3) := by decide +kernel
theorem dX7_findBest_38 : decode cX7_findBest 38 = .ok (.aload_n 0, 1) := by decide +kernel
theorem dX7_findBest_39 : decode cX7_findBest 39 = .ok (.getfield 37, 3) := by decide +kernel
theorem dX7_findBest_42 : decode cX7_findBest 42 = .ok (.getfield 227, 3) := by decide +kernel
theorem dX7_findBest_45 : decode cX7_findBest 45 = .ok (.iload_n 1, 1) := by decide +kernel
theorem dX7_findBest_46 : decode cX7_findBest 46 = .ok (.invokestatic 331, 3) := by decide +kernel
theorem dX7_findBest_49 : decode cX7_findBest 49 = .ok (.iconst 0, 1) := by decide +kernel
theorem dX7_findBest_50 : decode cX7_findBest 50 = .ok (.istore_n 3, 1) := by decide +kernel
theorem dX7_findBest_51 : decode cX7_findBest 51 = .ok (.iload_n 3, 1) := by decide +kernel
theorem dX7_findBest_52 : decode cX7_findBest 52 = .ok (.iload_n 2, 1) := by decide +kernel
theorem dX7_findBest_53 : decode cX7_findBest 53 = .ok (.if_icmp .ge 69, 3) := by decide +kernel
theorem dX7_findBest_56 : decode cX7_findBest 56 = .ok (.aload_n 0, 1) := by decide +kernel
theorem dX7_findBest_57 : decode cX7_findBest 57 = .ok (.getfield 37, 3) := by decide +kernel
theorem dX7_findBest_60 : decode cX7_findBest 60 = .ok (.invokevirtual 212, 3) := by decide +kernel
theorem dX7_findBest_63 : decode cX7_findBest 63 = .ok (.aload_n 0, 1) := by decide +kernel
theorem dX7_findBest_64 : decode cX7_findBest 64 = .ok (.getfield 37, 3) := by decide +kernel
theorem dX7_findBest_67 : decode cX7_findBest 67 = .ok (.invokevirtual 334, 3) := by decide +kernel
theorem dX7_findBest_70 : decode cX7_findBest 70 = .ok (.aload_n 0, 1) := by decide +kernel
theorem dX7_findBest_71 : decode cX7_findBest 71 = .ok (.getfield 37, 3) := by decide +kernel
theorem dX7_findBest_74 : decode cX7_findBest 74 = .ok (.invokevirtual 224, 3) := by decide +kernel
theorem dX7_findBest_77 : decode cX7_findBest 77 = .ok (.aload_n 0, 1) := by decide +kernel
theorem dX7_findBest_78 : decode cX7_findBest 78 = .ok (.getfield 44, 3) := by decide +kernel
theorem dX7_findBest_81 : decode cX7_findBest 81 = .ok (.aload_n 0, 1) := by decide +kernel
theorem dX7_findBest_82 : decode cX7_findBest 82 = .ok (.getfield 37, 3) := by decide +kernel
theorem dX7_findBest_85 : decode cX7_findBest 85 = .ok (.getfield 177, 3) := by decide +kernel
theorem dX7_findBest_88 : decode cX7_findBest 88 = .ok (.aload_n 0, 1) := by decide +kernel
theorem dX7_findBest_89 : decode cX7_findBest 89 = .ok (.getfield 37, 3) := by decide +kernel
theorem dX7_findBest_92 : decode cX7_findBest 92 = .ok (.getfield 168, 3) := by decide +kernel
theorem dX7_findBest_95 : decode cX7_findBest 95 = .ok (.invokevirtual 237, 3) := by decide +kernel
theorem dX7_findBest_98 : decode cX7_findBest 98 = .ok (.ifCond .eq 7, 3) := by decide +kernel
theorem dX7_findBest_101 : decode cX7_findBest 101 = .ok (.aload_n 0, 1) := by decide +kernel
theorem dX7_findBest_102 : decode cX7_findBest 102 = .ok (.invokevirtual 215, 3) := by decide +kernel
theorem dX7_findBest_105 : decode cX7_findBest 105 = .ok (.aload_n 0, 1) := by decide +kernel
theorem dX7_findBest_106 : decode cX7_findBest 106 = .ok (.getfield 37, 3) := by decide +kernel
theorem dX7_findBest_109 : decode cX7_findBest 109 = .ok (.getfield 227, 3) := by decide +kernel
theorem dX7_findBest_112 : decode cX7_findBest 112 = .ok (.iload_n 1, 1) := by decide +kernel
theorem dX7_findBest_113 : decode cX7_findBest 113 = .ok (.invokestatic 230, 3) := by decide +kernel
theorem dX7_findBest_116 : decode cX7_findBest 116 = .ok (.iinc 3 1, 3) := by decide +kernel
theorem dX7_findBest_119 : decode cX7_findBest 119 = .ok (.goto (-68), 3) := by decide +kernel
theorem dX7_findBest_122 : decode cX7_findBest 122 = .ok (.return_, 1) := by decide +kernel
theorem dX7_tryPackings_0 : decode cX7_tryPackings 0 = .ok (.aload_n 0, 1) := by decide +kernel
theorem dX7_tryPackings_1 : decode cX7_tryPackings 1 = .ok (.getfield 19, 3) := by decide +kernel
theorem dX7_tryPackings_4 : decode cX7_tryPackings 4 = .ok (.getfield 109, 3) := by decide +kernel
theorem dX7_tryPackings_7 : decode cX7_tryPackings 7 = .ok (.istore_n 1, 1) := by decide +kernel
theorem dX7_tryPackings_8 : decode cX7_tryPackings 8 = .ok (.iload_n 1, 1) := by decide +kernel
theorem dX7_tryPackings_9 : decode cX7_tryPackings 9 = .ok (.invokestatic 218, 3) := by decide +kernel
theorem dX7_tryPackings_12 : decode cX7_tryPackings 12 = .ok (.istore_n 2, 1) := by decide +kernel
theorem dX7_tryPackings_13 : decode cX7_tryPackings 13 = .ok (.aload_n 0, 1) := by decide +kernel
theorem dX7_tryPackings_14 : decode cX7_tryPackings 14 = .ok (.getfield 37, 3) := by decide +kernel
theorem dX7_tryPackings_17 : decode cX7_tryPackings 17 = .ok (.getfield 337, 3) := by decide +kernel
theorem dX7_tryPackings_20 : decode cX7_tryPackings 20 = .ok (.iload_n 1, 1) := by decide +kernel
theorem dX7_tryPackings_21 : decode cX7_tryPackings 21 = .ok (.invokestatic 331, 3) := by decide +kernel
theorem dX7_tryPackings_24 : decode cX7_tryPackings 24 = .ok (.iconst 0, 1) := by decide +kernel
theorem dX7_tryPackings_25 : decode cX7_tryPackings 25 = .ok (.istore_n 3, 1) := by decide +kernel
theorem dX7_tryPackings_26 : decode cX7_tryPackings 26 = .ok (.iload_n 3, 1) := by decide +kernel
theorem dX7_tryPackings_27 : decode cX7_tryPackings 27 = .ok (.iload_n 2, 1) := by decide +kernel
theorem dX7_tryPackings_28 : decode cX7_tryPackings 28 = .ok (.if_icmp .ge 101, 3) := by decide +kernel
theorem dX7_tryPackings_31 : decode cX7_tryPackings 31 = .ok (.aload_n 0, 1) := by decide +kernel
theorem dX7_tryPackings_32 : decode cX7_tryPackings 32 = .ok (.getfield 37, 3) := by decide +kernel
theorem dX7_tryPackings_35 : decode cX7_tryPackings 35 = .ok (.invokevirtual 244, 3) := by decide +kernel
theorem dX7_tryPackings_38 : decode cX7_tryPackings 38 = .ok (.aload_n 0, 1) := by decide +kernel
theorem dX7_tryPackings_39 : decode cX7_tryPackings 39 = .ok (.getfield 37, 3) := by decide +kernel
theorem dX7_tryPackings_42 : decode cX7_tryPackings 42 = .ok (.invokevirtual 224, 3) := by decide +kernel
theorem dX7_tryPackings_45 : decode cX7_tryPackings 45 = .ok (.aload_n 0, 1) := by decide +kernel
theorem dX7_tryPackings_46 : decode cX7_tryPackings 46 = .ok (.getfield 44, 3) := by decide +kernel
theorem dX7_tryPackings_49 : decode cX7_tryPackings 49 = .ok (.aload_n 0, 1) := by decide +kernel
theorem dX7_tryPackings_50 : decode cX7_tryPackings 50 = .ok (.getfield 37, 3) := by decide +kernel
theorem dX7_tryPackings_53 : decode cX7_tryPackings 53 = .ok (.getfield 177, 3) := by decide +kernel
theorem dX7_tryPackings_56 : decode cX7_tryPackings 56 = .ok (.aload_n 0, 1) := by decide +kernel
theorem dX7_tryPackings_57 : decode cX7_tryPackings 57 = .ok (.getfield 37, 3) := by decide +kernel
theorem dX7_tryPackings_60 : decode cX7_tryPackings 60 = .ok (.getfield 168, 3) := by decide +kernel
theorem dX7_tryPackings_63 : decode cX7_tryPackings 63 = .ok (.invokevirtual 237, 3) := by decide +kernel
theorem dX7_tryPackings_66 : decode cX7_tryPackings 66 = .ok (.ifCond .eq 46, 3) := by decide +kernel
theorem dX7_tryPackings_69 : decode cX7_tryPackings 69 = .ok (.aload_n 0, 1) := by decide +kernel
theorem dX7_tryPackings_70 : decode cX7_tryPackings 70 = .ok (.getfield 44, 3) := by decide +kernel
theorem dX7_tryPackings_73 : decode cX7_tryPackings 73 = .ok (.aload_n 0, 1) := by decide +kernel
theorem dX7_tryPackings_74 : decode cX7_tryPackings 74 = .ok (.getfield 37, 3) := by decide +kernel
theorem dX7_tryPackings_77 : decode cX7_tryPackings 77 = .ok (.getfield 177, 3) := by decide +kernel
theorem dX7_tryPackings_80 : decode cX7_tryPackings 80 = .ok (.aload_n 0, 1) := by decide +kernel
theorem dX7_tryPackings_81 : decode cX7_tryPackings 81 = .ok (.getfield 37, 3) := by decide +kernel
theorem dX7_tryPackings_84 : decode cX7_tryPackings 84 = .ok (.getfield 168, 3) := by decide +kernel
theorem dX7_tryPackings_87 : decode cX7_tryPackings 87 = .ok (.aload_n 0, 1) := by decide +kernel
theorem dX7_tryPackings_88 : decode cX7_tryPackings 88 = .ok (.getfield 37, 3) := by decide +kernel
theorem dX7_tryPackings_91 : decode cX7_tryPackings 91 = .ok (.getfield 227, 3) := by decide +kernel
theorem dX7_tryPackings_94 : decode cX7_tryPackings 94 = .ok (.iload_n 1, 1) := by decide +kernel
theorem dX7_tryPackings_95 : decode cX7_tryPackings 95 = .ok (.invokestatic 122, 3) := by decide +kernel
theorem dX7_tryPackings_98 : decode cX7_tryPackings 98 = .ok (.aload_n 0, 1) := by decide +kernel
theorem dX7_tryPackings_99 : decode cX7_tryPackings 99 = .ok (.getfield 37, 3) := by decide +kernel
theorem dX7_tryPackings_102 : decode cX7_tryPackings 102 = .ok (.getfield 337, 3) := by decide +kernel
theorem dX7_tryPackings_105 : decode cX7_tryPackings 105 = .ok (.iload_n 1, 1) := by decide +kernel
theorem dX7_tryPackings_106 : decode cX7_tryPackings 106 = .ok (.invokestatic 122, 3) := by decide +kernel
theorem dX7_tryPackings_109 : decode cX7_tryPackings 109 = .ok (.invokevirtual 241, 3) := by decide +kernel
theorem dX7_tryPackings_112 : decode cX7_tryPackings 112 = .ok (.aload_n 0, 1) := by decide +kernel
theorem dX7_tryPackings_113 : decode cX7_tryPackings 113 = .ok (.getfield 37, 3) := by decide +kernel
theorem dX7_tryPackings_116 : decode cX7_tryPackings 116 = .ok (.getfield 337, 3) := by decide +kernel
theorem dX7_tryPackings_119 : decode cX7_tryPackings 119 = .ok (.iload_n 1, 1) := by decide +kernel
theorem dX7_tryPackings_120 : decode cX7_tryPackings 120 = .ok (.invokestatic 230, 3) := by decide +kernel
theorem dX7_tryPackings_123 : decode cX7_tryPackings 123 = .ok (.iinc 3 1, 3) := by decide +kernel
theorem dX7_tryPackings_126 : decode cX7_tryPackings 126 = .ok (.goto (-100), 3) := by decide +kernel
theorem dX7_tryPackings_129 : decode cX7_tryPackings 129 = .ok (.return_, 1) := by decide +kernel
theorem dX7_within_0 : decode cX7_within 0 = .ok (.iload_n 0, 1) := by decide +kernel
theorem dX7_within_1 : decode cX7_within 1 = .ok (.iload_n 1, 1) := by decide +kernel
theorem dX7_within_2 : decode cX7_within 2 = .ok (.if_icmp .lt 12, 3) := by decide +kernel
theorem dX7_within_5 : decode cX7_within 5 = .ok (.iload_n 0, 1) := by decide +kernel
theorem dX7_within_6 : decode cX7_within 6 = .ok (.iload_n 2, 1) := by decide +kernel
theorem dX7_within_7 : decode cX7_within 7 = .ok (.if_icmp .gt 7, 3) := by decide +kernel
theorem dX7_within_10 : decode cX7_within 10 = .ok (.iconst 1, 1) := by decide +kernel
theorem dX7_within_11 : decode cX7_within 11 = .ok (.goto 4, 3) := by decide +kernel
theorem dX7_within_14 : decode cX7_within 14 = .ok (.iconst 0, 1) := by decide +kernel
theorem dX7_within_15 : decode cX7_within 15 = .ok (.ireturn, 1) := by decide +kernel
theorem dX7_leastOf_0 : decode cX7_leastOf 0 = .ok (.iload_n 0, 1) := by decide +kernel
theorem dX7_leastOf_1 : decode cX7_leastOf 1 = .ok (.iconst 1, 1) := by decide +kernel
theorem dX7_leastOf_2 : decode cX7_leastOf 2 = .ok (.if_icmp .eq 8, 3) := by decide +kernel
theorem dX7_leastOf_5 : decode cX7_leastOf 5 = .ok (.iload_n 0, 1) := by decide +kernel
theorem dX7_leastOf_6 : decode cX7_leastOf 6 = .ok (.iconst 2, 1) := by decide +kernel
theorem dX7_leastOf_7 : decode cX7_leastOf 7 = .ok (.if_icmp .ne 7, 3) := by decide +kernel
theorem dX7_leastOf_10 : decode cX7_leastOf 10 = .ok (.iconst 1, 1) := by decide +kernel
theorem dX7_leastOf_11 : decode cX7_leastOf 11 = .ok (.goto 4, 3) := by decide +kernel
theorem dX7_leastOf_14 : decode cX7_leastOf 14 = .ok (.iconst 0, 1) := by decide +kernel
theorem dX7_leastOf_15 : decode cX7_leastOf 15 = .ok (.ireturn, 1) := by decide +kernel
theorem dX7_mostOf_0 : decode cX7_mostOf 0 = .ok (.iload_n 0, 1) := by decide +kernel
theorem dX7_mostOf_1 : decode cX7_mostOf 1 = .ok (.tableswitch 43 0 4 #[35, 37, 43, 43, 40], 35) := by decide +kernel
theorem dX7_mostOf_36 : decode cX7_mostOf 36 = .ok (.iconst 4, 1) := by decide +kernel
theorem dX7_mostOf_37 : decode cX7_mostOf 37 = .ok (.ireturn, 1) := by decide +kernel
theorem dX7_mostOf_38 : decode cX7_mostOf 38 = .ok (.bipush 6, 2) := by decide +kernel
theorem dX7_mostOf_40 : decode cX7_mostOf 40 = .ok (.ireturn, 1) := by decide +kernel
theorem dX7_mostOf_41 : decode cX7_mostOf 41 = .ok (.bipush 99, 2) := by decide +kernel
theorem dX7_mostOf_43 : decode cX7_mostOf 43 = .ok (.ireturn, 1) := by decide +kernel
theorem dX7_mostOf_44 : decode cX7_mostOf 44 = .ok (.bipush 9, 2) := by decide +kernel
theorem dX7_mostOf_46 : decode cX7_mostOf 46 = .ok (.ireturn, 1) := by decide +kernel
theorem dX7_numberOf_0 : decode cX7_numberOf 0 = .ok (.iconst 0, 1) := by decide +kernel
theorem dX7_numberOf_1 : decode cX7_numberOf 1 = .ok (.istore_n 2, 1) := by decide +kernel
theorem dX7_numberOf_2 : decode cX7_numberOf 2 = .ok (.iconst 0, 1) := by decide +kernel
theorem dX7_numberOf_3 : decode cX7_numberOf 3 = .ok (.istore_n 3, 1) := by decide +kernel
theorem dX7_numberOf_4 : decode cX7_numberOf 4 = .ok (.iload_n 3, 1) := by decide +kernel
theorem dX7_numberOf_5 : decode cX7_numberOf 5 = .ok (.iload_n 1, 1) := by decide +kernel
theorem dX7_numberOf_6 : decode cX7_numberOf 6 = .ok (.if_icmp .ge 17, 3) := by decide +kernel
theorem dX7_numberOf_9 : decode cX7_numberOf 9 = .ok (.iload_n 2, 1) := by decide +kernel
theorem dX7_numberOf_10 : decode cX7_numberOf 10 = .ok (.iconst 5, 1) := by decide +kernel
theorem dX7_numberOf_11 : decode cX7_numberOf 11 = .ok (.imul, 1) := by decide +kernel
theorem dX7_numberOf_12 : decode cX7_numberOf 12 = .ok (.aload_n 0, 1) := by decide +kernel
theorem dX7_numberOf_13 : decode cX7_numberOf 13 = .ok (.iload_n 3, 1) := by decide +kernel
theorem dX7_numberOf_14 : decode cX7_numberOf 14 = .ok (.iaload, 1) := by decide +kernel
theorem dX7_numberOf_15 : decode cX7_numberOf 15 = .ok (.iadd, 1) := by decide +kernel
theorem dX7_numberOf_16 : decode cX7_numberOf 16 = .ok (.istore_n 2, 1) := by decide +kernel
theorem dX7_numberOf_17 : decode cX7_numberOf 17 = .ok (.iinc 3 1, 3) := by decide +kernel
theorem dX7_numberOf_20 : decode cX7_numberOf 20 = .ok (.goto (-16), 3) := by decide +kernel
theorem dX7_numberOf_23 : decode cX7_numberOf 23 = .ok (.iload_n 2, 1) := by decide +kernel
theorem dX7_numberOf_24 : decode cX7_numberOf 24 = .ok (.ireturn, 1) := by decide +kernel
theorem dX7_placeOf_0 : decode cX7_placeOf 0 = .ok (.iconst 0, 1) := by decide +kernel
theorem dX7_placeOf_1 : decode cX7_placeOf 1 = .ok (.istore_n 3, 1) := by decide +kernel
theorem dX7_placeOf_2 : decode cX7_placeOf 2 = .ok (.iconst 0, 1) := by decide +kernel
theorem dX7_placeOf_3 : decode cX7_placeOf 3 = .ok (.istore 4, 2) := by decide +kernel
theorem dX7_placeOf_5 : decode cX7_placeOf 5 = .ok (.iload 4, 2) := by decide +kernel
theorem dX7_placeOf_7 : decode cX7_placeOf 7 = .ok (.iload_n 1, 1) := by decide +kernel
theorem dX7_placeOf_8 : decode cX7_placeOf 8 = .ok (.if_icmp .ge 20, 3) := by decide +kernel
theorem dX7_placeOf_11 : decode cX7_placeOf 11 = .ok (.aload_n 0, 1) := by decide +kernel
theorem dX7_placeOf_12 : decode cX7_placeOf 12 = .ok (.iload 4, 2) := by decide +kernel
theorem dX7_placeOf_14 : decode cX7_placeOf 14 = .ok (.iaload, 1) := by decide +kernel
theorem dX7_placeOf_15 : decode cX7_placeOf 15 = .ok (.iload_n 2, 1) := by decide +kernel
theorem dX7_placeOf_16 : decode cX7_placeOf 16 = .ok (.if_icmp .ne 6, 3) := by decide +kernel
theorem dX7_placeOf_19 : decode cX7_placeOf 19 = .ok (.iload 4, 2) := by decide +kernel
theorem dX7_placeOf_21 : decode cX7_placeOf 21 = .ok (.istore_n 3, 1) := by decide +kernel
theorem dX7_placeOf_22 : decode cX7_placeOf 22 = .ok (.iinc 4 1, 3) := by decide +kernel
theorem dX7_placeOf_25 : decode cX7_placeOf 25 = .ok (.goto (-20), 3) := by decide +kernel
theorem dX7_placeOf_28 : decode cX7_placeOf 28 = .ok (.iload_n 3, 1) := by decide +kernel
theorem dX7_placeOf_29 : decode cX7_placeOf 29 = .ok (.ireturn, 1) := by decide +kernel
theorem dX7_moveAhead_0 : decode cX7_moveAhead 0 = .ok (.aload_n 0, 1) := by decide +kernel
theorem dX7_moveAhead_1 : decode cX7_moveAhead 1 = .ok (.iload_n 1, 1) := by decide +kernel
theorem dX7_moveAhead_2 : decode cX7_moveAhead 2 = .ok (.iload_n 2, 1) := by decide +kernel
theorem dX7_moveAhead_3 : decode cX7_moveAhead 3 = .ok (.invokestatic 144, 3) := by decide +kernel
theorem dX7_moveAhead_6 : decode cX7_moveAhead 6 = .ok (.istore_n 3, 1) := by decide +kernel
theorem dX7_moveAhead_7 : decode cX7_moveAhead 7 = .ok (.iload_n 3, 1) := by decide +kernel
theorem dX7_moveAhead_8 : decode cX7_moveAhead 8 = .ok (.ifCond .le 17, 3) := by decide +kernel
theorem dX7_moveAhead_11 : decode cX7_moveAhead 11 = .ok (.aload_n 0, 1) := by decide +kernel
theorem dX7_moveAhead_12 : decode cX7_moveAhead 12 = .ok (.iload_n 3, 1) := by decide +kernel
theorem dX7_moveAhead_13 : decode cX7_moveAhead 13 = .ok (.aload_n 0, 1) := by decide +kernel
theorem dX7_moveAhead_14 : decode cX7_moveAhead 14 = .ok (.iload_n 3, 1) := by decide +kernel
theorem dX7_moveAhead_15 : decode cX7_moveAhead 15 = .ok (.iconst 1, 1) := by decide +kernel
theorem dX7_moveAhead_16 : decode cX7_moveAhead 16 = .ok (.isub, 1) := by decide +kernel
theorem dX7_moveAhead_17 : decode cX7_moveAhead 17 = .ok (.iaload, 1) := by decide +kernel
theorem dX7_moveAhead_18 : decode cX7_moveAhead 18 = .ok (.iastore, 1) := by decide +kernel
theorem dX7_moveAhead_19 : decode cX7_moveAhead 19 = .ok (.iinc 3 (-1), 3) := by decide +kernel
theorem dX7_moveAhead_22 : decode cX7_moveAhead 22 = .ok (.goto (-15), 3) := by decide +kernel
theorem dX7_moveAhead_25 : decode cX7_moveAhead 25 = .ok (.aload_n 0, 1) := by decide +kernel
theorem dX7_moveAhead_26 : decode cX7_moveAhead 26 = .ok (.iconst 0, 1) := by decide +kernel
theorem dX7_moveAhead_27 : decode cX7_moveAhead 27 = .ok (.iload_n 2, 1) := by decide +kernel
theorem dX7_moveAhead_28 : decode cX7_moveAhead 28 = .ok (.iastore, 1) := by decide +kernel
theorem dX7_moveAhead_29 : decode cX7_moveAhead 29 = .ok (.return_, 1) := by decide +kernel
theorem dX7_layByOrder_0 : decode cX7_layByOrder 0 = .ok (.iconst 0, 1) := by decide +kernel
theorem dX7_layByOrder_1 : decode cX7_layByOrder 1 = .ok (.istore_n 2, 1) := by decide +kernel
theorem dX7_layByOrder_2 : decode cX7_layByOrder 2 = .ok (.iload_n 2, 1) := by decide +kernel
theorem dX7_layByOrder_3 : decode cX7_layByOrder 3 = .ok (.iload_n 1, 1) := by decide +kernel
theorem dX7_layByOrder_4 : decode cX7_layByOrder 4 = .ok (.if_icmp .ge 13, 3) := by decide +kernel
theorem dX7_layByOrder_7 : decode cX7_layByOrder 7 = .ok (.aload_n 0, 1) := by decide +kernel
theorem dX7_layByOrder_8 : decode cX7_layByOrder 8 = .ok (.iload_n 2, 1) := by decide +kernel
theorem dX7_layByOrder_9 : decode cX7_layByOrder 9 = .ok (.iload_n 2, 1) := by decide +kernel
theorem dX7_layByOrder_10 : decode cX7_layByOrder 10 = .ok (.iastore, 1) := by decide +kernel
theorem dX7_layByOrder_11 : decode cX7_layByOrder 11 = .ok (.iinc 2 1, 3) := by decide +kernel
theorem dX7_layByOrder_14 : decode cX7_layByOrder 14 = .ok (.goto (-12), 3) := by decide +kernel
theorem dX7_layByOrder_17 : decode cX7_layByOrder 17 = .ok (.return_, 1) := by decide +kernel
theorem dX7_arrangements_0 : decode cX7_arrangements 0 = .ok (.iconst 1, 1) := by decide +kernel
theorem dX7_arrangements_1 : decode cX7_arrangements 1 = .ok (.istore_n 1, 1) := by decide +kernel
theorem dX7_arrangements_2 : decode cX7_arrangements 2 = .ok (.iconst 2, 1) := by decide +kernel
theorem dX7_arrangements_3 : decode cX7_arrangements 3 = .ok (.istore_n 2, 1) := by decide +kernel
theorem dX7_arrangements_4 : decode cX7_arrangements 4 = .ok (.iload_n 2, 1) := by decide +kernel
theorem dX7_arrangements_5 : decode cX7_arrangements 5 = .ok (.iload_n 0, 1) := by decide +kernel
theorem dX7_arrangements_6 : decode cX7_arrangements 6 = .ok (.if_icmp .gt 13, 3) := by decide +kernel
theorem dX7_arrangements_9 : decode cX7_arrangements 9 = .ok (.iload_n 1, 1) := by decide +kernel
theorem dX7_arrangements_10 : decode cX7_arrangements 10 = .ok (.iload_n 2, 1) := by decide +kernel
theorem dX7_arrangements_11 : decode cX7_arrangements 11 = .ok (.imul, 1) := by decide +kernel
theorem dX7_arrangements_12 : decode cX7_arrangements 12 = .ok (.istore_n 1, 1) := by decide +kernel
theorem dX7_arrangements_13 : decode cX7_arrangements 13 = .ok (.iinc 2 1, 3) := by decide +kernel
theorem dX7_arrangements_16 : decode cX7_arrangements 16 = .ok (.goto (-12), 3) := by decide +kernel
theorem dX7_arrangements_19 : decode cX7_arrangements 19 = .ok (.iload_n 1, 1) := by decide +kernel
theorem dX7_arrangements_20 : decode cX7_arrangements 20 = .ok (.ireturn, 1) := by decide +kernel
theorem dX7_toNextArrangement_0 : decode cX7_toNextArrangement 0 = .ok (.iload_n 1, 1) := by decide +kernel
theorem dX7_toNextArrangement_1 : decode cX7_toNextArrangement 1 = .ok (.iconst 2, 1) := by decide +kernel
theorem dX7_toNextArrangement_2 : decode cX7_toNextArrangement 2 = .ok (.isub, 1) := by decide +kernel
theorem dX7_toNextArrangement_3 : decode cX7_toNextArrangement 3 = .ok (.istore_n 2, 1) := by decide +kernel
theorem dX7_toNextArrangement_4 : decode cX7_toNextArrangement 4 = .ok (.iload_n 2, 1) := by decide +kernel
theorem dX7_toNextArrangement_5 : decode cX7_toNextArrangement 5 = .ok (.ifCond .lt 20, 3) := by decide +kernel
theorem dX7_toNextArrangement_8 : decode cX7_toNextArrangement 8 = .ok (.aload_n 0, 1) := by decide +kernel
theorem dX7_toNextArrangement_9 : decode cX7_toNextArrangement 9 = .ok (.iload_n 2, 1) := by decide +kernel
theorem dX7_toNextArrangement_10 : decode cX7_toNextArrangement 10 = .ok (.iaload, 1) := by decide +kernel
theorem dX7_toNextArrangement_11 : decode cX7_toNextArrangement 11 = .ok (.aload_n 0, 1) := by decide +kernel
theorem dX7_toNextArrangement_12 : decode cX7_toNextArrangement 12 = .ok (.iload_n 2, 1) := by decide +kernel
theorem dX7_toNextArrangement_13 : decode cX7_toNextArrangement 13 = .ok (.iconst 1, 1) := by decide +kernel
theorem dX7_toNextArrangement_14 : decode cX7_toNextArrangement 14 = .ok (.iadd, 1) := by decide +kernel
theorem dX7_toNextArrangement_15 : decode cX7_toNextArrangement 15 = .ok (.iaload, 1) := by decide +kernel
theorem dX7_toNextArrangement_16 : decode cX7_toNextArrangement 16 = .ok (.if_icmp .le 9, 3) := by decide +kernel
theorem dX7_toNextArrangement_19 : decode cX7_toNextArrangement 19 = .ok (.iinc 2 (-1), 3) := by decide +kernel
theorem dX7_toNextArrangement_22 : decode cX7_toNextArrangement 22 = .ok (.goto (-18), 3) := by decide +kernel
theorem dX7_toNextArrangement_25 : decode cX7_toNextArrangement 25 = .ok (.iload_n 2, 1) := by decide +kernel
theorem dX7_toNextArrangement_26 : decode cX7_toNextArrangement 26 = .ok (.ifCond .ge 4, 3) := by decide +kernel
theorem dX7_toNextArrangement_29 : decode cX7_toNextArrangement 29 = .ok (.return_, 1) := by decide +kernel
theorem dX7_toNextArrangement_30 : decode cX7_toNextArrangement 30 = .ok (.iload_n 1, 1) := by decide +kernel
theorem dX7_toNextArrangement_31 : decode cX7_toNextArrangement 31 = .ok (.iconst 1, 1) := by decide +kernel
theorem dX7_toNextArrangement_32 : decode cX7_toNextArrangement 32 = .ok (.isub, 1) := by decide +kernel
theorem dX7_toNextArrangement_33 : decode cX7_toNextArrangement 33 = .ok (.istore_n 3, 1) := by decide +kernel
theorem dX7_toNextArrangement_34 : decode cX7_toNextArrangement 34 = .ok (.iload_n 3, 1) := by decide +kernel
theorem dX7_toNextArrangement_35 : decode cX7_toNextArrangement 35 = .ok (.iload_n 2, 1) := by decide +kernel
theorem dX7_toNextArrangement_36 : decode cX7_toNextArrangement 36 = .ok (.iconst 1, 1) := by decide +kernel
theorem dX7_toNextArrangement_37 : decode cX7_toNextArrangement 37 = .ok (.iadd, 1) := by decide +kernel
theorem dX7_toNextArrangement_38 : decode cX7_toNextArrangement 38 = .ok (.if_icmp .le 18, 3) := by decide +kernel
theorem dX7_toNextArrangement_41 : decode cX7_toNextArrangement 41 = .ok (.aload_n 0, 1) := by decide +kernel
theorem dX7_toNextArrangement_42 : decode cX7_toNextArrangement 42 = .ok (.iload_n 3, 1) := by decide +kernel
theorem dX7_toNextArrangement_43 : decode cX7_toNextArrangement 43 = .ok (.iaload, 1) := by decide +kernel
theorem dX7_toNextArrangement_44 : decode cX7_toNextArrangement 44 = .ok (.aload_n 0, 1) := by decide +kernel
theorem dX7_toNextArrangement_45 : decode cX7_toNextArrangement 45 = .ok (.iload_n 2, 1) := by decide +kernel
theorem dX7_toNextArrangement_46 : decode cX7_toNextArrangement 46 = .ok (.iaload, 1) := by decide +kernel
theorem dX7_toNextArrangement_47 : decode cX7_toNextArrangement 47 = .ok (.if_icmp .ge 9, 3) := by decide +kernel
theorem dX7_toNextArrangement_50 : decode cX7_toNextArrangement 50 = .ok (.iinc 3 (-1), 3) := by decide +kernel
theorem dX7_toNextArrangement_53 : decode cX7_toNextArrangement 53 = .ok (.goto (-19), 3) := by decide +kernel
theorem dX7_toNextArrangement_56 : decode cX7_toNextArrangement 56 = .ok (.aload_n 0, 1) := by decide +kernel
theorem dX7_toNextArrangement_57 : decode cX7_toNextArrangement 57 = .ok (.iload_n 2, 1) := by decide +kernel
theorem dX7_toNextArrangement_58 : decode cX7_toNextArrangement 58 = .ok (.iload_n 3, 1) := by decide +kernel
theorem dX7_toNextArrangement_59 : decode cX7_toNextArrangement 59 = .ok (.invokestatic 340, 3) := by decide +kernel
theorem dX7_toNextArrangement_62 : decode cX7_toNextArrangement 62 = .ok (.iload_n 2, 1) := by decide +kernel
theorem dX7_toNextArrangement_63 : decode cX7_toNextArrangement 63 = .ok (.iconst 1, 1) := by decide +kernel
theorem dX7_toNextArrangement_64 : decode cX7_toNextArrangement 64 = .ok (.iadd, 1) := by decide +kernel
theorem dX7_toNextArrangement_65 : decode cX7_toNextArrangement 65 = .ok (.istore 4, 2) := by decide +kernel
theorem dX7_toNextArrangement_67 : decode cX7_toNextArrangement 67 = .ok (.iload_n 1, 1) := by decide +kernel
theorem dX7_toNextArrangement_68 : decode cX7_toNextArrangement 68 = .ok (.iconst 1, 1) := by decide +kernel
theorem dX7_toNextArrangement_69 : decode cX7_toNextArrangement 69 = .ok (.isub, 1) := by decide +kernel
theorem dX7_toNextArrangement_70 : decode cX7_toNextArrangement 70 = .ok (.istore 5, 2) := by decide +kernel
theorem dX7_toNextArrangement_72 : decode cX7_toNextArrangement 72 = .ok (.iload 4, 2) := by decide +kernel
theorem dX7_toNextArrangement_74 : decode cX7_toNextArrangement 74 = .ok (.iload 5, 2) := by decide +kernel
theorem dX7_toNextArrangement_76 : decode cX7_toNextArrangement 76 = .ok (.if_icmp .ge 20, 3) := by decide +kernel
theorem dX7_toNextArrangement_79 : decode cX7_toNextArrangement 79 = .ok (.aload_n 0, 1) := by decide +kernel
theorem dX7_toNextArrangement_80 : decode cX7_toNextArrangement 80 = .ok (.iload 4, 2) := by decide +kernel
theorem dX7_toNextArrangement_82 : decode cX7_toNextArrangement 82 = .ok (.iload 5, 2) := by decide +kernel
theorem dX7_toNextArrangement_84 : decode cX7_toNextArrangement 84 = .ok (.invokestatic 340, 3) := by decide +kernel
theorem dX7_toNextArrangement_87 : decode cX7_toNextArrangement 87 = .ok (.iinc 4 1, 3) := by decide +kernel
theorem dX7_toNextArrangement_90 : decode cX7_toNextArrangement 90 = .ok (.iinc 5 (-1), 3) := by decide +kernel
theorem dX7_toNextArrangement_93 : decode cX7_toNextArrangement 93 = .ok (.goto (-21), 3) := by decide +kernel
theorem dX7_toNextArrangement_96 : decode cX7_toNextArrangement 96 = .ok (.return_, 1) := by decide +kernel
theorem dX7_exchangePlaces_0 : decode cX7_exchangePlaces 0 = .ok (.aload_n 0, 1) := by decide +kernel
theorem dX7_exchangePlaces_1 : decode cX7_exchangePlaces 1 = .ok (.iload_n 1, 1) := by decide +kernel
theorem dX7_exchangePlaces_2 : decode cX7_exchangePlaces 2 = .ok (.iaload, 1) := by decide +kernel
theorem dX7_exchangePlaces_3 : decode cX7_exchangePlaces 3 = .ok (.istore_n 3, 1) := by decide +kernel
theorem dX7_exchangePlaces_4 : decode cX7_exchangePlaces 4 = .ok (.aload_n 0, 1) := by decide +kernel
theorem dX7_exchangePlaces_5 : decode cX7_exchangePlaces 5 = .ok (.iload_n 1, 1) := by decide +kernel
theorem dX7_exchangePlaces_6 : decode cX7_exchangePlaces 6 = .ok (.aload_n 0, 1) := by decide +kernel
theorem dX7_exchangePlaces_7 : decode cX7_exchangePlaces 7 = .ok (.iload_n 2, 1) := by decide +kernel
theorem dX7_exchangePlaces_8 : decode cX7_exchangePlaces 8 = .ok (.iaload, 1) := by decide +kernel
theorem dX7_exchangePlaces_9 : decode cX7_exchangePlaces 9 = .ok (.iastore, 1) := by decide +kernel
theorem dX7_exchangePlaces_10 : decode cX7_exchangePlaces 10 = .ok (.aload_n 0, 1) := by decide +kernel
theorem dX7_exchangePlaces_11 : decode cX7_exchangePlaces 11 = .ok (.iload_n 2, 1) := by decide +kernel
theorem dX7_exchangePlaces_12 : decode cX7_exchangePlaces 12 = .ok (.iload_n 3, 1) := by decide +kernel
theorem dX7_exchangePlaces_13 : decode cX7_exchangePlaces 13 = .ok (.iastore, 1) := by decide +kernel
theorem dX7_exchangePlaces_14 : decode cX7_exchangePlaces 14 = .ok (.return_, 1) := by decide +kernel
theorem dX7_power_0 : decode cX7_power 0 = .ok (.lconst 1, 1) := by decide +kernel
theorem dX7_power_1 : decode cX7_power 1 = .ok (.lstore_n 3, 1) := by decide +kernel
theorem dX7_power_2 : decode cX7_power 2 = .ok (.iconst 0, 1) := by decide +kernel
theorem dX7_power_3 : decode cX7_power 3 = .ok (.istore 5, 2) := by decide +kernel
theorem dX7_power_5 : decode cX7_power 5 = .ok (.iload 5, 2) := by decide +kernel
theorem dX7_power_7 : decode cX7_power 7 = .ok (.iload_n 2, 1) := by decide +kernel
theorem dX7_power_8 : decode cX7_power 8 = .ok (.if_icmp .ge 13, 3) := by decide +kernel
theorem dX7_power_11 : decode cX7_power 11 = .ok (.lload_n 3, 1) := by decide +kernel
theorem dX7_power_12 : decode cX7_power 12 = .ok (.lload_n 0, 1) := by decide +kernel
theorem dX7_power_13 : decode cX7_power 13 = .ok (.lmul, 1) := by decide +kernel
theorem dX7_power_14 : decode cX7_power 14 = .ok (.lstore_n 3, 1) := by decide +kernel
theorem dX7_power_15 : decode cX7_power 15 = .ok (.iinc 5 1, 3) := by decide +kernel
theorem dX7_power_18 : decode cX7_power 18 = .ok (.goto (-13), 3) := by decide +kernel
theorem dX7_power_21 : decode cX7_power 21 = .ok (.lload_n 3, 1) := by decide +kernel
theorem dX7_power_22 : decode cX7_power 22 = .ok (.lreturn, 1) := by decide +kernel
theorem dX7_partOfFraction_0 : decode cX7_partOfFraction 0 = .ok (.lload_n 2, 1) := by decide +kernel
theorem dX7_partOfFraction_1 : decode cX7_partOfFraction 1 = .ok (.lstore 5, 2) := by decide +kernel
theorem dX7_partOfFraction_3 : decode cX7_partOfFraction 3 = .ok (.lload_n 0, 1) := by decide +kernel
theorem dX7_partOfFraction_4 : decode cX7_partOfFraction 4 = .ok (.lstore 7, 2) := by decide +kernel
theorem dX7_partOfFraction_6 : decode cX7_partOfFraction 6 = .ok (.iconst 0, 1) := by decide +kernel
theorem dX7_partOfFraction_7 : decode cX7_partOfFraction 7 = .ok (.istore 9, 2) := by decide +kernel
theorem dX7_partOfFraction_9 : decode cX7_partOfFraction 9 = .ok (.iload 9, 2) := by decide +kernel
theorem dX7_partOfFraction_11 : decode cX7_partOfFraction 11 = .ok (.bipush 100, 2) := by decide +kernel
theorem dX7_partOfFraction_13 : decode cX7_partOfFraction 13 = .ok (.if_icmp .ge 31, 3) := by decide +kernel
theorem dX7_partOfFraction_16 : decode cX7_partOfFraction 16 = .ok (.lload 7, 2) := by decide +kernel
theorem dX7_partOfFraction_18 : decode cX7_partOfFraction 18 = .ok (.lconst 0, 1) := by decide +kernel
theorem dX7_partOfFraction_19 : decode cX7_partOfFraction 19 = .ok (.lcmp, 1) := by decide +kernel
theorem dX7_partOfFraction_20 : decode cX7_partOfFraction 20 = .ok (.ifCond .eq 24, 3) := by decide +kernel
theorem dX7_partOfFraction_23 : decode cX7_partOfFraction 23 = .ok (.lload 5, 2) := by decide +kernel
theorem dX7_partOfFraction_25 : decode cX7_partOfFraction 25 = .ok (.lload 7, 2) := by decide +kernel
theorem dX7_partOfFraction_27 : decode cX7_partOfFraction 27 = .ok (.lrem, 1) := by decide +kernel
theorem dX7_partOfFraction_28 : decode cX7_partOfFraction 28 = .ok (.lstore 10, 2) := by decide +kernel
theorem dX7_partOfFraction_30 : decode cX7_partOfFraction 30 = .ok (.lload 7, 2) := by decide +kernel
theorem dX7_partOfFraction_32 : decode cX7_partOfFraction 32 = .ok (.lstore 5, 2) := by decide +kernel
theorem dX7_partOfFraction_34 : decode cX7_partOfFraction 34 = .ok (.lload 10, 2) := by decide +kernel
theorem dX7_partOfFraction_36 : decode cX7_partOfFraction 36 = .ok (.lstore 7, 2) := by decide +kernel
theorem dX7_partOfFraction_38 : decode cX7_partOfFraction 38 = .ok (.iinc 9 1, 3) := by decide +kernel
theorem dX7_partOfFraction_41 : decode cX7_partOfFraction 41 = .ok (.goto (-32), 3) := by decide +kernel
theorem dX7_partOfFraction_44 : decode cX7_partOfFraction 44 = .ok (.lload 5, 2) := by decide +kernel
theorem dX7_partOfFraction_46 : decode cX7_partOfFraction 46 = .ok (.lconst 0, 1) := by decide +kernel
theorem dX7_partOfFraction_47 : decode cX7_partOfFraction 47 = .ok (.lcmp, 1) := by decide +kernel
theorem dX7_partOfFraction_48 : decode cX7_partOfFraction 48 = .ok (.ifCond .ne 5, 3) := by decide +kernel
theorem dX7_partOfFraction_51 : decode cX7_partOfFraction 51 = .ok (.lconst 0, 1) := by decide +kernel
theorem dX7_partOfFraction_52 : decode cX7_partOfFraction 52 = .ok (.lreturn, 1) := by decide +kernel
theorem dX7_partOfFraction_53 : decode cX7_partOfFraction 53 = .ok (.iload 4, 2) := by decide +kernel
theorem dX7_partOfFraction_55 : decode cX7_partOfFraction 55 = .ok (.ifCond .ne 10, 3) := by decide +kernel
theorem dX7_partOfFraction_58 : decode cX7_partOfFraction 58 = .ok (.lload_n 0, 1) := by decide +kernel
theorem dX7_partOfFraction_59 : decode cX7_partOfFraction 59 = .ok (.lload 5, 2) := by decide +kernel
theorem dX7_partOfFraction_61 : decode cX7_partOfFraction 61 = .ok (.ldiv, 1) := by decide +kernel
theorem dX7_partOfFraction_62 : decode cX7_partOfFraction 62 = .ok (.goto 7, 3) := by decide +kernel
theorem dX7_partOfFraction_65 : decode cX7_partOfFraction 65 = .ok (.lload_n 2, 1) := by decide +kernel
theorem dX7_partOfFraction_66 : decode cX7_partOfFraction 66 = .ok (.lload 5, 2) := by decide +kernel
theorem dX7_partOfFraction_68 : decode cX7_partOfFraction 68 = .ok (.ldiv, 1) := by decide +kernel
theorem dX7_partOfFraction_69 : decode cX7_partOfFraction 69 = .ok (.lreturn, 1) := by decide +kernel
theorem dX8_init_0 : decode cX8_init 0 = .ok (.aload_n 0, 1) := by decide +kernel
theorem dX8_init_1 : decode cX8_init 1 = .ok (.invokespecial 1, 3) := by decide +kernel
theorem dX8_init_4 : decode cX8_init 4 = .ok (.aload_n 0, 1) := by decide +kernel
theorem dX8_init_5 : decode cX8_init 5 = .ok (.sipush 160, 3) := by decide +kernel
theorem dX8_init_8 : decode cX8_init 8 = .ok (.newarray .int, 2) := by decide +kernel
theorem dX8_init_10 : decode cX8_init 10 = .ok (.putfield 7, 3) := by decide +kernel
theorem dX8_init_13 : decode cX8_init 13 = .ok (.aload_n 0, 1) := by decide +kernel
theorem dX8_init_14 : decode cX8_init 14 = .ok (.bipush 6, 2) := by decide +kernel
theorem dX8_init_16 : decode cX8_init 16 = .ok (.newarray .int, 2) := by decide +kernel
theorem dX8_init_18 : decode cX8_init 18 = .ok (.putfield 13, 3) := by decide +kernel
theorem dX8_init_21 : decode cX8_init 21 = .ok (.aload_n 0, 1) := by decide +kernel
theorem dX8_init_22 : decode cX8_init 22 = .ok (.bipush 6, 2) := by decide +kernel
theorem dX8_init_24 : decode cX8_init 24 = .ok (.newarray .int, 2) := by decide +kernel
theorem dX8_init_26 : decode cX8_init 26 = .ok (.putfield 16, 3) := by decide +kernel
theorem dX8_init_29 : decode cX8_init 29 = .ok (.aload_n 0, 1) := by decide +kernel
theorem dX8_init_30 : decode cX8_init 30 = .ok (.iconst 5, 1) := by decide +kernel
theorem dX8_init_31 : decode cX8_init 31 = .ok (.newarray .int, 2) := by decide +kernel
theorem dX8_init_33 : decode cX8_init 33 = .ok (.putfield 19, 3) := by decide +kernel
theorem dX8_init_36 : decode cX8_init 36 = .ok (.aload_n 0, 1) := by decide +kernel
theorem dX8_init_37 : decode cX8_init 37 = .ok (.bipush 32, 2) := by decide +kernel
theorem dX8_init_39 : decode cX8_init 39 = .ok (.newarray .int, 2) := by decide +kernel
theorem dX8_init_41 : decode cX8_init 41 = .ok (.putfield 22, 3) := by decide +kernel
theorem dX8_init_44 : decode cX8_init 44 = .ok (.aload_n 0, 1) := by decide +kernel
theorem dX8_init_45 : decode cX8_init 45 = .ok (.bipush 6, 2) := by decide +kernel
theorem dX8_init_47 : decode cX8_init 47 = .ok (.newarray .int, 2) := by decide +kernel
theorem dX8_init_49 : decode cX8_init 49 = .ok (.putfield 25, 3) := by decide +kernel
theorem dX8_init_52 : decode cX8_init 52 = .ok (.aload_n 0, 1) := by decide +kernel
theorem dX8_init_53 : decode cX8_init 53 = .ok (.bipush 6, 2) := by decide +kernel
theorem dX8_init_55 : decode cX8_init 55 = .ok (.newarray .int, 2) := by decide +kernel
theorem dX8_init_57 : decode cX8_init 57 = .ok (.putfield 28, 3) := by decide +kernel
theorem dX8_init_60 : decode cX8_init 60 = .ok (.aload_n 0, 1) := by decide +kernel
theorem dX8_init_61 : decode cX8_init 61 = .ok (.iconst 5, 1) := by decide +kernel
theorem dX8_init_62 : decode cX8_init 62 = .ok (.newarray .int, 2) := by decide +kernel
theorem dX8_init_64 : decode cX8_init 64 = .ok (.putfield 31, 3) := by decide +kernel
theorem dX8_init_67 : decode cX8_init 67 = .ok (.aload_n 0, 1) := by decide +kernel
theorem dX8_init_68 : decode cX8_init 68 = .ok (.bipush 10, 2) := by decide +kernel
theorem dX8_init_70 : decode cX8_init 70 = .ok (.newarray .int, 2) := by decide +kernel
theorem dX8_init_72 : decode cX8_init 72 = .ok (.putfield 34, 3) := by decide +kernel
theorem dX8_init_75 : decode cX8_init 75 = .ok (.aload_n 0, 1) := by decide +kernel
theorem dX8_init_76 : decode cX8_init 76 = .ok (.iconst 2, 1) := by decide +kernel
theorem dX8_init_77 : decode cX8_init 77 = .ok (.newarray .int, 2) := by decide +kernel
theorem dX8_init_79 : decode cX8_init 79 = .ok (.putfield 37, 3) := by decide +kernel
theorem dX8_init_82 : decode cX8_init 82 = .ok (.aload_n 0, 1) := by decide +kernel
theorem dX8_init_83 : decode cX8_init 83 = .ok (.sipush 160, 3) := by decide +kernel
theorem dX8_init_86 : decode cX8_init 86 = .ok (.newarray .int, 2) := by decide +kernel
theorem dX8_init_88 : decode cX8_init 88 = .ok (.putfield 40, 3) := by decide +kernel
theorem dX8_init_91 : decode cX8_init 91 = .ok (.aload_n 0, 1) := by decide +kernel
theorem dX8_init_92 : decode cX8_init 92 = .ok (.bipush 14, 2) := by decide +kernel
theorem dX8_init_94 : decode cX8_init 94 = .ok (.newarray .int, 2) := by decide +kernel
theorem dX8_init_96 : decode cX8_init 96 = .ok (.dup, 1) := by decide +kernel
theorem dX8_init_97 : decode cX8_init 97 = .ok (.iconst 0, 1) := by decide +kernel
theorem dX8_init_98 : decode cX8_init 98 = .ok (.iconst 0, 1) := by decide +kernel
theorem dX8_init_99 : decode cX8_init 99 = .ok (.iastore, 1) := by decide +kernel
theorem dX8_init_100 : decode cX8_init 100 = .ok (.dup, 1) := by decide +kernel
theorem dX8_init_101 : decode cX8_init 101 = .ok (.iconst 1, 1) := by decide +kernel
theorem dX8_init_102 : decode cX8_init 102 = .ok (.iconst 4, 1) := by decide +kernel
theorem dX8_init_103 : decode cX8_init 103 = .ok (.iastore, 1) := by decide +kernel
theorem dX8_init_104 : decode cX8_init 104 = .ok (.dup, 1) := by decide +kernel
theorem dX8_init_105 : decode cX8_init 105 = .ok (.iconst 2, 1) := by decide +kernel
theorem dX8_init_106 : decode cX8_init 106 = .ok (.bipush 6, 2) := by decide +kernel
theorem dX8_init_108 : decode cX8_init 108 = .ok (.iastore, 1) := by decide +kernel
theorem dX8_init_109 : decode cX8_init 109 = .ok (.dup, 1) := by decide +kernel
theorem dX8_init_110 : decode cX8_init 110 = .ok (.iconst 3, 1) := by decide +kernel
theorem dX8_init_111 : decode cX8_init 111 = .ok (.bipush 10, 2) := by decide +kernel
theorem dX8_init_113 : decode cX8_init 113 = .ok (.iastore, 1) := by decide +kernel
theorem dX8_init_114 : decode cX8_init 114 = .ok (.dup, 1) := by decide +kernel
theorem dX8_init_115 : decode cX8_init 115 = .ok (.iconst 4, 1) := by decide +kernel
theorem dX8_init_116 : decode cX8_init 116 = .ok (.bipush 15, 2) := by decide +kernel
theorem dX8_init_118 : decode cX8_init 118 = .ok (.iastore, 1) := by decide +kernel
theorem dX8_init_119 : decode cX8_init 119 = .ok (.dup, 1) := by decide +kernel
theorem dX8_init_120 : decode cX8_init 120 = .ok (.iconst 5, 1) := by decide +kernel
theorem dX8_init_121 : decode cX8_init 121 = .ok (.bipush 19, 2) := by decide +kernel
theorem dX8_init_123 : decode cX8_init 123 = .ok (.iastore, 1) := by decide +kernel
theorem dX8_init_124 : decode cX8_init 124 = .ok (.dup, 1) := by decide +kernel
theorem dX8_init_125 : decode cX8_init 125 = .ok (.bipush 6, 2) := by decide +kernel
theorem dX8_init_127 : decode cX8_init 127 = .ok (.bipush 24, 2) := by decide +kernel
theorem dX8_init_129 : decode cX8_init 129 = .ok (.iastore, 1) := by decide +kernel
theorem dX8_init_130 : decode cX8_init 130 = .ok (.dup, 1) := by decide +kernel
theorem dX8_init_131 : decode cX8_init 131 = .ok (.bipush 7, 2) := by decide +kernel
theorem dX8_init_133 : decode cX8_init 133 = .ok (.bipush 28, 2) := by decide +kernel
theorem dX8_init_135 : decode cX8_init 135 = .ok (.iastore, 1) := by decide +kernel
theorem dX8_init_136 : decode cX8_init 136 = .ok (.dup, 1) := by decide +kernel
theorem dX8_init_137 : decode cX8_init 137 = .ok (.bipush 8, 2) := by decide +kernel
theorem dX8_init_139 : decode cX8_init 139 = .ok (.bipush 33, 2) := by decide +kernel
theorem dX8_init_141 : decode cX8_init 141 = .ok (.iastore, 1) := by decide +kernel
theorem dX8_init_142 : decode cX8_init 142 = .ok (.dup, 1) := by decide +kernel
theorem dX8_init_143 : decode cX8_init 143 = .ok (.bipush 9, 2) := by decide +kernel
theorem dX8_init_145 : decode cX8_init 145 = .ok (.bipush 38, 2) := by decide +kernel
theorem dX8_init_147 : decode cX8_init 147 = .ok (.iastore, 1) := by decide +kernel
theorem dX8_init_148 : decode cX8_init 148 = .ok (.dup, 1) := by decide +kernel
theorem dX8_init_149 : decode cX8_init 149 = .ok (.bipush 10, 2) := by decide +kernel
theorem dX8_init_151 : decode cX8_init 151 = .ok (.bipush 42, 2) := by decide +kernel
theorem dX8_init_153 : decode cX8_init 153 = .ok (.iastore, 1) := by decide +kernel
theorem dX8_init_154 : decode cX8_init 154 = .ok (.dup, 1) := by decide +kernel
theorem dX8_init_155 : decode cX8_init 155 = .ok (.bipush 11, 2) := by decide +kernel
theorem dX8_init_157 : decode cX8_init 157 = .ok (.bipush 45, 2) := by decide +kernel
theorem dX8_init_159 : decode cX8_init 159 = .ok (.iastore, 1) := by decide +kernel
theorem dX8_init_160 : decode cX8_init 160 = .ok (.dup, 1) := by decide +kernel
theorem dX8_init_161 : decode cX8_init 161 = .ok (.bipush 12, 2) := by decide +kernel
theorem dX8_init_163 : decode cX8_init 163 = .ok (.bipush 49, 2) := by decide +kernel
theorem dX8_init_165 : decode cX8_init 165 = .ok (.iastore, 1) := by decide +kernel
theorem dX8_init_166 : decode cX8_init 166 = .ok (.dup, 1) := by decide +kernel
theorem dX8_init_167 : decode cX8_init 167 = .ok (.bipush 13, 2) := by decide +kernel
theorem dX8_init_169 : decode cX8_init 169 = .ok (.bipush 57, 2) := by decide +kernel
theorem dX8_init_171 : decode cX8_init 171 = .ok (.iastore, 1) := by decide +kernel
theorem dX8_init_172 : decode cX8_init 172 = .ok (.putfield 43, 3) := by decide +kernel
theorem dX8_init_175 : decode cX8_init 175 = .ok (.aload_n 0, 1) := by decide +kernel
theorem dX8_init_176 : decode cX8_init 176 = .ok (.bipush 57, 2) := by decide +kernel
theorem dX8_init_178 : decode cX8_init 178 = .ok (.newarray .int, 2) := by decide +kernel
theorem dX8_init_180 : decode cX8_init 180 = .ok (.dup, 1) := by decide +kernel
theorem dX8_init_181 : decode cX8_init 181 = .ok (.iconst 0, 1) := by decide +kernel
theorem dX8_init_182 : decode cX8_init 182 = .ok (.bipush 114, 2) := by decide +kernel
theorem dX8_init_184 : decode cX8_init 184 = .ok (.iastore, 1) := by decide +kernel
theorem dX8_init_185 : decode cX8_init 185 = .ok (.dup, 1) := by decide +kernel
theorem dX8_init_186 : decode cX8_init 186 = .ok (.iconst 1, 1) := by decide +kernel
theorem dX8_init_187 : decode cX8_init 187 = .ok (.bipush 111, 2) := by decide +kernel
theorem dX8_init_189 : decode cX8_init 189 = .ok (.iastore, 1) := by decide +kernel
theorem dX8_init_190 : decode cX8_init 190 = .ok (.dup, 1) := by decide +kernel
theorem dX8_init_191 : decode cX8_init 191 = .ok (.iconst 2, 1) := by decide +kernel
theorem dX8_init_192 : decode cX8_init 192 = .ok (.bipush 97, 2) := by decide +kernel
theorem dX8_init_194 : decode cX8_init 194 = .ok (.iastore, 1) := by decide +kernel
theorem dX8_init_195 : decode cX8_init 195 = .ok (.dup, 1) := by decide +kernel
theorem dX8_init_196 : decode cX8_init 196 = .ok (.iconst 3, 1) := by decide +kernel
theorem dX8_init_197 : decode cX8_init 197 = .ok (.bipush 100, 2) := by decide +kernel
theorem dX8_init_199 : decode cX8_init 199 = .ok (.iastore, 1) := by decide +kernel
theorem dX8_init_200 : decode cX8_init 200 = .ok (.dup, 1) := by decide +kernel
theorem dX8_init_201 : decode cX8_init 201 = .ok (.iconst 4, 1) := by decide +kernel
theorem dX8_init_202 : decode cX8_init 202 = .ok (.bipush 117, 2) := by decide +kernel
theorem dX8_init_204 : decode cX8_init 204 = .ok (.iastore, 1) := by decide +kernel
theorem dX8_init_205 : decode cX8_init 205 = .ok (.dup, 1) := by decide +kernel
theorem dX8_init_206 : decode cX8_init 206 = .ok (.iconst 5, 1) := by decide +kernel
theorem dX8_init_207 : decode cX8_init 207 = .ok (.bipush 112, 2) := by decide +kernel
theorem dX8_init_209 : decode cX8_init 209 = .ok (.iastore, 1) := by decide +kernel
theorem dX8_init_210 : decode cX8_init 210 = .ok (.dup, 1) := by decide +kernel
theorem dX8_init_211 : decode cX8_init 211 = .ok (.bipush 6, 2) := by decide +kernel
theorem dX8_init_213 : decode cX8_init 213 = .ok (.bipush 100, 2) := by decide +kernel
theorem dX8_init_215 : decode cX8_init 215 = .ok (.iastore, 1) := by decide +kernel
theorem dX8_init_216 : decode cX8_init 216 = .ok (.dup, 1) := by decide +kernel
theorem dX8_init_217 : decode cX8_init 217 = .ok (.bipush 7, 2) := by decide +kernel
theorem dX8_init_219 : decode cX8_init 219 = .ok (.bipush 111, 2) := by decide +kernel
theorem dX8_init_221 : decode cX8_init 221 = .ok (.iastore, 1) := by decide +kernel
theorem dX8_init_222 : decode cX8_init 222 = .ok (.dup, 1) := by decide +kernel
theorem dX8_init_223 : decode cX8_init 223 = .ok (.bipush 8, 2) := by decide +kernel
theorem dX8_init_225 : decode cX8_init 225 = .ok (.bipush 119, 2) := by decide +kernel
theorem dX8_init_227 : decode cX8_init 227 = .ok (.iastore, 1) := by decide +kernel
theorem dX8_init_228 : decode cX8_init 228 = .ok (.dup, 1) := by decide +kernel
theorem dX8_init_229 : decode cX8_init 229 = .ok (.bipush 9, 2) := by decide +kernel
theorem dX8_init_231 : decode cX8_init 231 = .ok (.bipush 110, 2) := by decide +kernel
theorem dX8_init_233 : decode cX8_init 233 = .ok (.iastore, 1) := by decide +kernel
theorem dX8_init_234 : decode cX8_init 234 = .ok (.dup, 1) := by decide +kernel
theorem dX8_init_235 : decode cX8_init 235 = .ok (.bipush 10, 2) := by decide +kernel
theorem dX8_init_237 : decode cX8_init 237 = .ok (.bipush 111, 2) := by decide +kernel
theorem dX8_init_239 : decode cX8_init 239 = .ok (.iastore, 1) := by decide +kernel
theorem dX8_init_240 : decode cX8_init 240 = .ok (.dup, 1) := by decide +kernel
theorem dX8_init_241 : decode cX8_init 241 = .ok (.bipush 11, 2) := by decide +kernel
theorem dX8_init_243 : decode cX8_init 243 = .ok (.bipush 114, 2) := by decide +kernel
theorem dX8_init_245 : decode cX8_init 245 = .ok (.iastore, 1) := by decide +kernel
theorem dX8_init_246 : decode cX8_init 246 = .ok (.dup, 1) := by decide +kernel
theorem dX8_init_247 : decode cX8_init 247 = .ok (.bipush 12, 2) := by decide +kernel
theorem dX8_init_249 : decode cX8_init 249 = .ok (.bipush 100, 2) := by decide +kernel
theorem dX8_init_251 : decode cX8_init 251 = .ok (.iastore, 1) := by decide +kernel
theorem dX8_init_252 : decode cX8_init 252 = .ok (.dup, 1) := by decide +kernel
theorem dX8_init_253 : decode cX8_init 253 = .ok (.bipush 13, 2) := by decide +kernel
theorem dX8_init_255 : decode cX8_init 255 = .ok (.bipush 101, 2) := by decide +kernel
theorem dX8_init_257 : decode cX8_init 257 = .ok (.iastore, 1) := by decide +kernel
theorem dX8_init_258 : decode cX8_init 258 = .ok (.dup, 1) := by decide +kernel
theorem dX8_init_259 : decode cX8_init 259 = .ok (.bipush 14, 2) := by decide +kernel
theorem dX8_init_261 : decode cX8_init 261 = .ok (.bipush 114, 2) := by decide +kernel
theorem dX8_init_263 : decode cX8_init 263 = .ok (.iastore, 1) := by decide +kernel
theorem dX8_init_264 : decode cX8_init 264 = .ok (.dup, 1) := by decide +kernel
theorem dX8_init_265 : decode cX8_init 265 = .ok (.bipush 15, 2) := by decide +kernel
theorem dX8_init_267 : decode cX8_init 267 = .ok (.bipush 112, 2) := by decide +kernel
theorem dX8_init_269 : decode cX8_init 269 = .ok (.iastore, 1) := by decide +kernel
theorem dX8_init_270 : decode cX8_init 270 = .ok (.dup, 1) := by decide +kernel
theorem dX8_init_271 : decode cX8_init 271 = .ok (.bipush 16, 2) := by decide +kernel
theorem dX8_init_273 : decode cX8_init 273 = .ok (.bipush 117, 2) := by decide +kernel
theorem dX8_init_275 : decode cX8_init 275 = .ok (.iastore, 1) := by decide +kernel
theorem dX8_init_276 : decode cX8_init 276 = .ok (.dup, 1) := by decide +kernel
theorem dX8_init_277 : decode cX8_init 277 = .ok (.bipush 17, 2) := by decide +kernel
theorem dX8_init_279 : decode cX8_init 279 = .ok (.bipush 115, 2) := by decide +kernel
theorem dX8_init_281 : decode cX8_init 281 = .ok (.iastore, 1) := by decide +kernel
theorem dX8_init_282 : decode cX8_init 282 = .ok (.dup, 1) := by decide +kernel
theorem dX8_init_283 : decode cX8_init 283 = .ok (.bipush 18, 2) := by decide +kernel
theorem dX8_init_285 : decode cX8_init 285 = .ok (.bipush 104, 2) := by decide +kernel
theorem dX8_init_287 : decode cX8_init 287 = .ok (.iastore, 1) := by decide +kernel
theorem dX8_init_288 : decode cX8_init 288 = .ok (.dup, 1) := by decide +kernel
theorem dX8_init_289 : decode cX8_init 289 = .ok (.bipush 19, 2) := by decide +kernel
theorem dX8_init_291 : decode cX8_init 291 = .ok (.bipush 115, 2) := by decide +kernel
theorem dX8_init_293 : decode cX8_init 293 = .ok (.iastore, 1) := by decide +kernel
theorem dX8_init_294 : decode cX8_init 294 = .ok (.dup, 1) := by decide +kernel
theorem dX8_init_295 : decode cX8_init 295 = .ok (.bipush 20, 2) := by decide +kernel
theorem dX8_init_297 : decode cX8_init 297 = .ok (.bipush 116, 2) := by decide +kernel
theorem dX8_init_299 : decode cX8_init 299 = .ok (.iastore, 1) := by decide +kernel
theorem dX8_init_300 : decode cX8_init 300 = .ok (.dup, 1) := by decide +kernel
theorem dX8_init_301 : decode cX8_init 301 = .ok (.bipush 21, 2) := by decide +kernel
theorem dX8_init_303 : decode cX8_init 303 = .ok (.bipush 97, 2) := by decide +kernel
theorem dX8_init_305 : decode cX8_init 305 = .ok (.iastore, 1) := by decide +kernel
theorem dX8_init_306 : decode cX8_init 306 = .ok (.dup, 1) := by decide +kernel
theorem dX8_init_307 : decode cX8_init 307 = .ok (.bipush 22, 2) := by decide +kernel
theorem dX8_init_309 : decode cX8_init 309 = .ok (.bipush 114, 2) := by decide +kernel
theorem dX8_init_311 : decode cX8_init 311 = .ok (.iastore, 1) := by decide +kernel
theorem dX8_init_312 : decode cX8_init 312 = .ok (.dup, 1) := by decide +kernel
theorem dX8_init_313 : decode cX8_init 313 = .ok (.bipush 23, 2) := by decide +kernel
theorem dX8_init_315 : decode cX8_init 315 = .ok (.bipush 116, 2) := by decide +kernel
theorem dX8_init_317 : decode cX8_init 317 = .ok (.iastore, 1) := by decide +kernel
theorem dX8_init_318 : decode cX8_init 318 = .ok (.dup, 1) := by decide +kernel
theorem dX8_init_319 : decode cX8_init 319 = .ok (.bipush 24, 2) := by decide +kernel
theorem dX8_init_321 : decode cX8_init 321 = .ok (.bipush 112, 2) := by decide +kernel
theorem dX8_init_323 : decode cX8_init 323 = .ok (.iastore, 1) := by decide +kernel
theorem dX8_init_324 : decode cX8_init 324 = .ok (.dup, 1) := by decide +kernel
theorem dX8_init_325 : decode cX8_init 325 = .ok (.bipush 25, 2) := by decide +kernel
theorem dX8_init_327 : decode cX8_init 327 = .ok (.bipush 97, 2) := by decide +kernel
theorem dX8_init_329 : decode cX8_init 329 = .ok (.iastore, 1) := by decide +kernel
theorem dX8_init_330 : decode cX8_init 330 = .ok (.dup, 1) := by decide +kernel
theorem dX8_init_331 : decode cX8_init 331 = .ok (.bipush 26, 2) := by decide +kernel
theorem dX8_init_333 : decode cX8_init 333 = .ok (.bipush 99, 2) := by decide +kernel
theorem dX8_init_335 : decode cX8_init 335 = .ok (.iastore, 1) := by decide +kernel
theorem dX8_init_336 : decode cX8_init 336 = .ok (.dup, 1) := by decide +kernel
theorem dX8_init_337 : decode cX8_init 337 = .ok (.bipush 27, 2) := by decide +kernel
theorem dX8_init_339 : decode cX8_init 339 = .ok (.bipush 107, 2) := by decide +kernel
theorem dX8_init_341 : decode cX8_init 341 = .ok (.iastore, 1) := by decide +kernel
theorem dX8_init_342 : decode cX8_init 342 = .ok (.dup, 1) := by decide +kernel
theorem dX8_init_343 : decode cX8_init 343 = .ok (.bipush 28, 2) := by decide +kernel
theorem dX8_init_345 : decode cX8_init 345 = .ok (.bipush 114, 2) := by decide +kernel
theorem dX8_init_347 : decode cX8_init 347 = .ok (.iastore, 1) := by decide +kernel
theorem dX8_init_348 : decode cX8_init 348 = .ok (.dup, 1) := by decide +kernel
theorem dX8_init_349 : decode cX8_init 349 = .ok (.bipush 29, 2) := by decide +kernel
theorem dX8_init_351 : decode cX8_init 351 = .ok (.bipush 111, 2) := by decide +kernel
theorem dX8_init_353 : decode cX8_init 353 = .ok (.iastore, 1) := by decide +kernel
theorem dX8_init_354 : decode cX8_init 354 = .ok (.dup, 1) := by decide +kernel
theorem dX8_init_355 : decode cX8_init 355 = .ok (.bipush 30, 2) := by decide +kernel
theorem dX8_init_357 : decode cX8_init 357 = .ok (.bipush 117, 2) := by decide +kernel
theorem dX8_init_359 : decode cX8_init 359 = .ok (.iastore, 1) := by decide +kernel
theorem dX8_init_360 : decode cX8_init 360 = .ok (.dup, 1) := by decide +kernel
theorem dX8_init_361 : decode cX8_init 361 = .ok (.bipush 31, 2) := by decide +kernel
theorem dX8_init_363 : decode cX8_init 363 = .ok (.bipush 110, 2) := by decide +kernel
theorem dX8_init_365 : decode cX8_init 365 = .ok (.iastore, 1) := by decide +kernel
theorem dX8_init_366 : decode cX8_init 366 = .ok (.dup, 1) := by decide +kernel
theorem dX8_init_367 : decode cX8_init 367 = .ok (.bipush 32, 2) := by decide +kernel
theorem dX8_init_369 : decode cX8_init 369 = .ok (.bipush 100, 2) := by decide +kernel
theorem dX8_init_371 : decode cX8_init 371 = .ok (.iastore, 1) := by decide +kernel
theorem dX8_init_372 : decode cX8_init 372 = .ok (.dup, 1) := by decide +kernel
theorem dX8_init_373 : decode cX8_init 373 = .ok (.bipush 33, 2) := by decide +kernel
theorem dX8_init_375 : decode cX8_init 375 = .ok (.bipush 112, 2) := by decide +kernel
theorem dX8_init_377 : decode cX8_init 377 = .ok (.iastore, 1) := by decide +kernel
theorem dX8_init_378 : decode cX8_init 378 = .ok (.dup, 1) := by decide +kernel
theorem dX8_init_379 : decode cX8_init 379 = .ok (.bipush 34, 2) := by decide +kernel
theorem dX8_init_381 : decode cX8_init 381 = .ok (.bipush 108, 2) := by decide +kernel
theorem dX8_init_383 : decode cX8_init 383 = .ok (.iastore, 1) := by decide +kernel
theorem dX8_init_384 : decode cX8_init 384 = .ok (.dup, 1) := by decide +kernel
theorem dX8_init_385 : decode cX8_init 385 = .ok (.bipush 35, 2) := by decide +kernel
theorem dX8_init_387 : decode cX8_init 387 = .ok (.bipush 97, 2) := by decide +kernel
theorem dX8_init_389 : decode cX8_init 389 = .ok (.iastore, 1) := by decide +kernel
theorem dX8_init_390 : decode cX8_init 390 = .ok (.dup, 1) := by decide +kernel
theorem dX8_init_391 : decode cX8_init 391 = .ok (.bipush 36, 2) := by decide +kernel
theorem dX8_init_393 : decode cX8_init 393 = .ok (.bipush 105, 2) := by decide +kernel
theorem dX8_init_395 : decode cX8_init 395 = .ok (.iastore, 1) := by decide +kernel
theorem dX8_init_396 : decode cX8_init 396 = .ok (.dup, 1) := by decide +kernel
theorem dX8_init_397 : decode cX8_init 397 = .ok (.bipush 37, 2) := by decide +kernel
theorem dX8_init_399 : decode cX8_init 399 = .ok (.bipush 110, 2) := by decide +kernel
theorem dX8_init_401 : decode cX8_init 401 = .ok (.iastore, 1) := by decide +kernel
theorem dX8_init_402 : decode cX8_init 402 = .ok (.dup, 1) := by decide +kernel
theorem dX8_init_403 : decode cX8_init 403 = .ok (.bipush 38, 2) := by decide +kernel
theorem dX8_init_405 : decode cX8_init 405 = .ok (.bipush 101, 2) := by decide +kernel
theorem dX8_init_407 : decode cX8_init 407 = .ok (.iastore, 1) := by decide +kernel
theorem dX8_init_408 : decode cX8_init 408 = .ok (.dup, 1) := by decide +kernel
theorem dX8_init_409 : decode cX8_init 409 = .ok (.bipush 39, 2) := by decide +kernel
theorem dX8_init_411 : decode cX8_init 411 = .ok (.bipush 103, 2) := by decide +kernel
theorem dX8_init_413 : decode cX8_init 413 = .ok (.iastore, 1) := by decide +kernel
theorem dX8_init_414 : decode cX8_init 414 = .ok (.dup, 1) := by decide +kernel
theorem dX8_init_415 : decode cX8_init 415 = .ok (.bipush 40, 2) := by decide +kernel
theorem dX8_init_417 : decode cX8_init 417 = .ok (.bipush 103, 2) := by decide +kernel
theorem dX8_init_419 : decode cX8_init 419 = .ok (.iastore, 1) := by decide +kernel
theorem dX8_init_420 : decode cX8_init 420 = .ok (.dup, 1) := by decide +kernel
theorem dX8_init_421 : decode cX8_init 421 = .ok (.bipush 41, 2) := by decide +kernel
theorem dX8_init_423 : decode cX8_init 423 = .ok (.bipush 115, 2) := by decide +kernel
theorem dX8_init_425 : decode cX8_init 425 = .ok (.iastore, 1) := by decide +kernel
theorem dX8_init_426 : decode cX8_init 426 = .ok (.dup, 1) := by decide +kernel
theorem dX8_init_427 : decode cX8_init 427 = .ok (.bipush 42, 2) := by decide +kernel
theorem dX8_init_429 : decode cX8_init 429 = .ok (.bipush 105, 2) := by decide +kernel
theorem dX8_init_431 : decode cX8_init 431 = .ok (.iastore, 1) := by decide +kernel
theorem dX8_init_432 : decode cX8_init 432 = .ok (.dup, 1) := by decide +kernel
theorem dX8_init_433 : decode cX8_init 433 = .ok (.bipush 43, 2) := by decide +kernel
theorem dX8_init_435 : decode cX8_init 435 = .ok (.bipush 99, 2) := by decide +kernel
theorem dX8_init_437 : decode cX8_init 437 = .ok (.iastore, 1) := by decide +kernel
theorem dX8_init_438 : decode cX8_init 438 = .ok (.dup, 1) := by decide +kernel
theorem dX8_init_439 : decode cX8_init 439 = .ok (.bipush 44, 2) := by decide +kernel
theorem dX8_init_441 : decode cX8_init 441 = .ok (.bipush 101, 2) := by decide +kernel
theorem dX8_init_443 : decode cX8_init 443 = .ok (.iastore, 1) := by decide +kernel
theorem dX8_init_444 : decode cX8_init 444 = .ok (.dup, 1) := by decide +kernel
theorem dX8_init_445 : decode cX8_init 445 = .ok (.bipush 45, 2) := by decide +kernel
theorem dX8_init_447 : decode cX8_init 447 = .ok (.bipush 115, 2) := by decide +kernel
theorem dX8_init_449 : decode cX8_init 449 = .ok (.iastore, 1) := by decide +kernel
theorem dX8_init_450 : decode cX8_init 450 = .ok (.dup, 1) := by decide +kernel
theorem dX8_init_451 : decode cX8_init 451 = .ok (.bipush 46, 2) := by decide +kernel
theorem dX8_init_453 : decode cX8_init 453 = .ok (.bipush 111, 2) := by decide +kernel
theorem dX8_init_455 : decode cX8_init 455 = .ok (.iastore, 1) := by decide +kernel
theorem dX8_init_456 : decode cX8_init 456 = .ok (.dup, 1) := by decide +kernel
theorem dX8_init_457 : decode cX8_init 457 = .ok (.bipush 47, 2) := by decide +kernel
theorem dX8_init_459 : decode cX8_init 459 = .ok (.bipush 100, 2) := by decide +kernel
theorem dX8_init_461 : decode cX8_init 461 = .ok (.iastore, 1) := by decide +kernel
theorem dX8_init_462 : decode cX8_init 462 = .ok (.dup, 1) := by decide +kernel
theorem dX8_init_463 : decode cX8_init 463 = .ok (.bipush 48, 2) := by decide +kernel
theorem dX8_init_465 : decode cX8_init 465 = .ok (.bipush 97, 2) := by decide +kernel
theorem dX8_init_467 : decode cX8_init 467 = .ok (.iastore, 1) := by decide +kernel
theorem dX8_init_468 : decode cX8_init 468 = .ok (.dup, 1) := by decide +kernel
theorem dX8_init_469 : decode cX8_init 469 = .ok (.bipush 49, 2) := by decide +kernel
theorem dX8_init_471 : decode cX8_init 471 = .ok (.bipush 112, 2) := by decide +kernel
theorem dX8_init_473 : decode cX8_init 473 = .ok (.iastore, 1) := by decide +kernel
theorem dX8_init_474 : decode cX8_init 474 = .ok (.dup, 1) := by decide +kernel
theorem dX8_init_475 : decode cX8_init 475 = .ok (.bipush 50, 2) := by decide +kernel
theorem dX8_init_477 : decode cX8_init 477 = .ok (.bipush 97, 2) := by decide +kernel
theorem dX8_init_479 : decode cX8_init 479 = .ok (.iastore, 1) := by decide +kernel
theorem dX8_init_480 : decode cX8_init 480 = .ok (.dup, 1) := by decide +kernel
theorem dX8_init_481 : decode cX8_init 481 = .ok (.bipush 51, 2) := by decide +kernel
theorem dX8_init_483 : decode cX8_init 483 = .ok (.bipush 114, 2) := by decide +kernel
theorem dX8_init_485 : decode cX8_init 485 = .ok (.iastore, 1) := by decide +kernel
theorem dX8_init_486 : decode cX8_init 486 = .ok (.dup, 1) := by decide +kernel
theorem dX8_init_487 : decode cX8_init 487 = .ok (.bipush 52, 2) := by decide +kernel
theorem dX8_init_489 : decode cX8_init 489 = .ok (.bipush 97, 2) := by decide +kernel
theorem dX8_init_491 : decode cX8_init 491 = .ok (.iastore, 1) := by decide +kernel
theorem dX8_init_492 : decode cX8_init 492 = .ok (.dup, 1) := by decide +kernel
theorem dX8_init_493 : decode cX8_init 493 = .ok (.bipush 53, 2) := by decide +kernel
theorem dX8_init_495 : decode cX8_init 495 = .ok (.bipush 102, 2) := by decide +kernel
theorem dX8_init_497 : decode cX8_init 497 = .ok (.iastore, 1) := by decide +kernel
theorem dX8_init_498 : decode cX8_init 498 = .ok (.dup, 1) := by decide +kernel
theorem dX8_init_499 : decode cX8_init 499 = .ok (.bipush 54, 2) := by decide +kernel
theorem dX8_init_501 : decode cX8_init 501 = .ok (.bipush 102, 2) := by decide +kernel
theorem dX8_init_503 : decode cX8_init 503 = .ok (.iastore, 1) := by decide +kernel
theorem dX8_init_504 : decode cX8_init 504 = .ok (.dup, 1) := by decide +kernel
theorem dX8_init_505 : decode cX8_init 505 = .ok (.bipush 55, 2) := by decide +kernel
theorem dX8_init_507 : decode cX8_init 507 = .ok (.bipush 105, 2) := by decide +kernel
theorem dX8_init_509 : decode cX8_init 509 = .ok (.iastore, 1) := by decide +kernel
theorem dX8_init_510 : decode cX8_init 510 = .ok (.dup, 1) := by decide +kernel
theorem dX8_init_511 : decode cX8_init 511 = .ok (.bipush 56, 2) := by decide +kernel
theorem dX8_init_513 : decode cX8_init 513 = .ok (.bipush 110, 2) := by decide +kernel
theorem dX8_init_515 : decode cX8_init 515 = .ok (.iastore, 1) := by decide +kernel
theorem dX8_init_516 : decode cX8_init 516 = .ok (.putfield 46, 3) := by decide +kernel
theorem dX8_init_519 : decode cX8_init 519 = .ok (.aload_n 0, 1) := by decide +kernel
theorem dX8_init_520 : decode cX8_init 520 = .ok (.iconst 5, 1) := by decide +kernel
theorem dX8_init_521 : decode cX8_init 521 = .ok (.newarray .int, 2) := by decide +kernel
theorem dX8_init_523 : decode cX8_init 523 = .ok (.putfield 49, 3) := by decide +kernel
theorem dX8_init_526 : decode cX8_init 526 = .ok (.aload_n 0, 1) := by decide +kernel
theorem dX8_init_527 : decode cX8_init 527 = .ok (.bipush 12, 2) := by decide +kernel
theorem dX8_init_529 : decode cX8_init 529 = .ok (.newarray .int, 2) := by decide +kernel
theorem dX8_init_531 : decode cX8_init 531 = .ok (.putfield 52, 3) := by decide +kernel
theorem dX8_init_534 : decode cX8_init 534 = .ok (.aload_n 0, 1) := by decide +kernel
theorem dX8_init_535 : decode cX8_init 535 = .ok (.iconst 2, 1) := by decide +kernel
theorem dX8_init_536 : decode cX8_init 536 = .ok (.newarray .boolean, 2) := by decide +kernel
theorem dX8_init_538 : decode cX8_init 538 = .ok (.putfield 55, 3) := by decide +kernel
theorem dX8_init_541 : decode cX8_init 541 = .ok (.aload_n 0, 1) := by decide +kernel
theorem dX8_init_542 : decode cX8_init 542 = .ok (.iconst 4, 1) := by decide +kernel
theorem dX8_init_543 : decode cX8_init 543 = .ok (.newarray .int, 2) := by decide +kernel
theorem dX8_init_545 : decode cX8_init 545 = .ok (.dup, 1) := by decide +kernel
theorem dX8_init_546 : decode cX8_init 546 = .ok (.iconst 0, 1) := by decide +kernel
theorem dX8_init_547 : decode cX8_init 547 = .ok (.bipush (-4), 2) := by decide +kernel
theorem dX8_init_549 : decode cX8_init 549 = .ok (.iastore, 1) := by decide +kernel
theorem dX8_init_550 : decode cX8_init 550 = .ok (.dup, 1) := by decide +kernel
theorem dX8_init_551 : decode cX8_init 551 = .ok (.iconst 1, 1) := by decide +kernel
theorem dX8_init_552 : decode cX8_init 552 = .ok (.bipush (-4), 2) := by decide +kernel
theorem dX8_init_554 : decode cX8_init 554 = .ok (.iastore, 1) := by decide +kernel
theorem dX8_init_555 : decode cX8_init 555 = .ok (.dup, 1) := by decide +kernel
theorem dX8_init_556 : decode cX8_init 556 = .ok (.iconst 2, 1) := by decide +kernel
theorem dX8_init_557 : decode cX8_init 557 = .ok (.bipush (-4), 2) := by decide +kernel
theorem dX8_init_559 : decode cX8_init 559 = .ok (.iastore, 1) := by decide +kernel
theorem dX8_init_560 : decode cX8_init 560 = .ok (.dup, 1) := by decide +kernel
theorem dX8_init_561 : decode cX8_init 561 = .ok (.iconst 3, 1) := by decide +kernel
theorem dX8_init_562 : decode cX8_init 562 = .ok (.bipush (-4), 2) := by decide +kernel
theorem dX8_init_564 : decode cX8_init 564 = .ok (.iastore, 1) := by decide +kernel
theorem dX8_init_565 : decode cX8_init 565 = .ok (.putfield 59, 3) := by decide +kernel
theorem dX8_init_568 : decode cX8_init 568 = .ok (.aload_n 0, 1) := by decide +kernel
theorem dX8_init_569 : decode cX8_init 569 = .ok (.iconst 4, 1) := by decide +kernel
theorem dX8_init_570 : decode cX8_init 570 = .ok (.newarray .int, 2) := by decide +kernel
theorem dX8_init_572 : decode cX8_init 572 = .ok (.putfield 62, 3) := by decide +kernel
theorem dX8_init_575 : decode cX8_init 575 = .ok (.aload_n 0, 1) := by decide +kernel
theorem dX8_init_576 : decode cX8_init 576 = .ok (.sipush 160, 3) := by decide +kernel
theorem dX8_init_579 : decode cX8_init 579 = .ok (.newarray .int, 2) := by decide +kernel
theorem dX8_init_581 : decode cX8_init 581 = .ok (.putfield 65, 3) := by decide +kernel
theorem dX8_init_584 : decode cX8_init 584 = .ok (.return_, 1) := by decide +kernel
theorem dX8_in_0 : decode cX8_in 0 = .ok (.lload_n 0, 1) := by decide +kernel
theorem dX8_in_1 : decode cX8_in 1 = .ok (.lload_n 2, 1) := by decide +kernel
theorem dX8_in_2 : decode cX8_in 2 = .ok (.lcmp, 1) := by decide +kernel
theorem dX8_in_3 : decode cX8_in 3 = .ok (.ifCond .lt 14, 3) := by decide +kernel
theorem dX8_in_6 : decode cX8_in 6 = .ok (.lload_n 0, 1) := by decide +kernel
theorem dX8_in_7 : decode cX8_in 7 = .ok (.lload 4, 2) := by decide +kernel
theorem dX8_in_9 : decode cX8_in 9 = .ok (.lcmp, 1) := by decide +kernel
theorem dX8_in_10 : decode cX8_in 10 = .ok (.ifCond .gt 7, 3) := by decide +kernel
theorem dX8_in_13 : decode cX8_in 13 = .ok (.iconst 1, 1) := by decide +kernel
theorem dX8_in_14 : decode cX8_in 14 = .ok (.goto 4, 3) := by decide +kernel
theorem dX8_in_17 : decode cX8_in 17 = .ok (.iconst 0, 1) := by decide +kernel
theorem dX8_in_18 : decode cX8_in 18 = .ok (.ireturn, 1) := by decide +kernel
theorem dX8_feed_0 : decode cX8_feed 0 = .ok (.iload_n 1, 1) := by decide +kernel
theorem dX8_feed_1 : decode cX8_feed 1 = .ok (.i2l, 1) := by decide +kernel
theorem dX8_feed_2 : decode cX8_feed 2 = .ok (.lconst 0, 1) := by decide +kernel
theorem dX8_feed_3 : decode cX8_feed 3 = .ok (.ldc2_w 68, 3) := by decide +kernel
theorem dX8_feed_6 : decode cX8_feed 6 = .ok (.invokestatic 70, 3) := by decide +kernel
theorem dX8_feed_9 : decode cX8_feed 9 = .ok (.ifCond .ne 5, 3) := by decide +kernel
theorem dX8_feed_12 : decode cX8_feed 12 = .ok (.iconst (-1), 1) := by decide +kernel
theorem dX8_feed_13 : decode cX8_feed 13 = .ok (.ireturn, 1) := by decide +kernel
theorem dX8_feed_14 : decode cX8_feed 14 = .ok (.aload_n 0, 1) := by decide +kernel
theorem dX8_feed_15 : decode cX8_feed 15 = .ok (.getfield 74, 3) := by decide +kernel
theorem dX8_feed_18 : decode cX8_feed 18 = .ok (.sipush 160, 3) := by decide +kernel
theorem dX8_feed_21 : decode cX8_feed 21 = .ok (.if_icmp .ne 6, 3) := by decide +kernel
theorem dX8_feed_24 : decode cX8_feed 24 = .ok (.bipush (-3), 2) := by decide +kernel
theorem dX8_feed_26 : decode cX8_feed 26 = .ok (.ireturn, 1) := by decide +kernel
theorem dX8_feed_27 : decode cX8_feed 27 = .ok (.aload_n 0, 1) := by decide +kernel
theorem dX8_feed_28 : decode cX8_feed 28 = .ok (.getfield 40, 3) := by decide +kernel
theorem dX8_feed_31 : decode cX8_feed 31 = .ok (.aload_n 0, 1) := by decide +kernel
theorem dX8_feed_32 : decode cX8_feed 32 = .ok (.getfield 74, 3) := by decide +kernel
theorem dX8_feed_35 : decode cX8_feed 35 = .ok (.iload_n 1, 1) := by decide +kernel
theorem dX8_feed_36 : decode cX8_feed 36 = .ok (.iastore, 1) := by decide +kernel
theorem dX8_feed_37 : decode cX8_feed 37 = .ok (.aload_n 0, 1) := by decide +kernel
theorem dX8_feed_38 : decode cX8_feed 38 = .ok (.dup, 1) := by decide +kernel
theorem dX8_feed_39 : decode cX8_feed 39 = .ok (.getfield 74, 3) := by decide +kernel
theorem dX8_feed_42 : decode cX8_feed 42 = .ok (.iconst 1, 1) := by decide +kernel
theorem dX8_feed_43 : decode cX8_feed 43 = .ok (.iadd, 1) := by decide +kernel
theorem dX8_feed_44 : decode cX8_feed 44 = .ok (.putfield 74, 3) := by decide +kernel
theorem dX8_feed_47 : decode cX8_feed 47 = .ok (.aload_n 0, 1) := by decide +kernel
theorem dX8_feed_48 : decode cX8_feed 48 = .ok (.getfield 74, 3) := by decide +kernel
theorem dX8_feed_51 : decode cX8_feed 51 = .ok (.ireturn, 1) := by decide +kernel
theorem dX8_end_0 : decode cX8_end 0 = .ok (.iload_n 1, 1) := by decide +kernel
theorem dX8_end_1 : decode cX8_end 1 = .ok (.i2l, 1) := by decide +kernel
theorem dX8_end_2 : decode cX8_end 2 = .ok (.lconst 0, 1) := by decide +kernel
theorem dX8_end_3 : decode cX8_end 3 = .ok (.aload_n 0, 1) := by decide +kernel
theorem dX8_end_4 : decode cX8_end 4 = .ok (.getfield 74, 3) := by decide +kernel
theorem dX8_end_7 : decode cX8_end 7 = .ok (.i2l, 1) := by decide +kernel
theorem dX8_end_8 : decode cX8_end 8 = .ok (.invokestatic 70, 3) := by decide +kernel
theorem dX8_end_11 : decode cX8_end 11 = .ok (.ifCond .ne 5, 3) := by decide +kernel
theorem dX8_end_14 : decode cX8_end 14 = .ok (.iconst (-1), 1) := by decide +kernel
theorem dX8_end_15 : decode cX8_end 15 = .ok (.ireturn, 1) := by decide +kernel
theorem dX8_end_16 : decode cX8_end 16 = .ok (.aload_n 0, 1) := by decide +kernel
theorem dX8_end_17 : decode cX8_end 17 = .ok (.getfield 74, 3) := by decide +kernel
theorem dX8_end_20 : decode cX8_end 20 = .ok (.istore_n 2, 1) := by decide +kernel
theorem dX8_end_21 : decode cX8_end 21 = .ok (.aload_n 0, 1) := by decide +kernel
theorem dX8_end_22 : decode cX8_end 22 = .ok (.iload_n 1, 1) := by decide +kernel
theorem dX8_end_23 : decode cX8_end 23 = .ok (.putfield 74, 3) := by decide +kernel
theorem dX8_end_26 : decode cX8_end 26 = .ok (.iload_n 2, 1) := by decide +kernel
theorem dX8_end_27 : decode cX8_end 27 = .ok (.ireturn, 1) := by decide +kernel
theorem dX8_byteAt_0 : decode cX8_byteAt 0 = .ok (.iload_n 1, 1) := by decide +kernel
theorem dX8_byteAt_1 : decode cX8_byteAt 1 = .ok (.aload_n 0, 1) := by decide +kernel
theorem dX8_byteAt_2 : decode cX8_byteAt 2 = .ok (.getfield 74, 3) := by decide +kernel
theorem dX8_byteAt_5 : decode cX8_byteAt 5 = .ok (.if_icmp .ge 12, 3) := by decide +kernel
theorem dX8_byteAt_8 : decode cX8_byteAt 8 = .ok (.aload_n 0, 1) := by decide +kernel
theorem dX8_byteAt_9 : decode cX8_byteAt 9 = .ok (.getfield 40, 3) := by decide +kernel
theorem dX8_byteAt_12 : decode cX8_byteAt 12 = .ok (.iload_n 1, 1) := by decide +kernel
theorem dX8_byteAt_13 : decode cX8_byteAt 13 = .ok (.iaload, 1) := by decide +kernel
theorem dX8_byteAt_14 : decode cX8_byteAt 14 = .ok (.goto 5, 3) := by decide +kernel
theorem dX8_byteAt_17 : decode cX8_byteAt 17 = .ok (.bipush (-4), 2) := by decide +kernel
theorem dX8_byteAt_19 : decode cX8_byteAt 19 = .ok (.ireturn, 1) := by decide +kernel
theorem dX8_fails_0 : decode cX8_fails 0 = .ok (.aload_n 0, 1) := by decide +kernel
theorem dX8_fails_1 : decode cX8_fails 1 = .ok (.getfield 78, 3) := by decide +kernel
theorem dX8_fails_4 : decode cX8_fails 4 = .ok (.ifCond .ne 16, 3) := by decide +kernel
theorem dX8_fails_7 : decode cX8_fails 7 = .ok (.aload_n 0, 1) := by decide +kernel
theorem dX8_fails_8 : decode cX8_fails 8 = .ok (.iload_n 1, 1) := by decide +kernel
theorem dX8_fails_9 : decode cX8_fails 9 = .ok (.putfield 78, 3) := by decide +kernel
theorem dX8_fails_12 : decode cX8_fails 12 = .ok (.aload_n 0, 1) := by decide +kernel
theorem dX8_fails_13 : decode cX8_fails 13 = .ok (.aload_n 0, 1) := by decide +kernel
theorem dX8_fails_14 : decode cX8_fails 14 = .ok (.getfield 81, 3) := by decide +kernel
theorem dX8_fails_17 : decode cX8_fails 17 = .ok (.putfield 84, 3) := by decide +kernel
theorem dX8_fails_20 : decode cX8_fails 20 = .ok (.return_, 1) := by decide +kernel
theorem dX8_nameHere_0 : decode cX8_nameHere 0 = .ok (.iconst 0, 1) := by decide +kernel
theorem dX8_nameHere_1 : decode cX8_nameHere 1 = .ok (.istore_n 1, 1) := by decide +kernel
theorem dX8_nameHere_2 : decode cX8_nameHere 2 = .ok (.iload_n 1, 1) := by decide +kernel
theorem dX8_nameHere_3 : decode cX8_nameHere 3 = .ok (.bipush 13, 2) := by decide +kernel
theorem dX8_nameHere_5 : decode cX8_nameHere 5 = .ok (.if_icmp .ge 113, 3) := by decide +kernel
theorem dX8_nameHere_8 : decode cX8_nameHere 8 = .ok (.aload_n 0, 1) := by decide +kernel
theorem dX8_nameHere_9 : decode cX8_nameHere 9 = .ok (.getfield 87, 3) := by decide +kernel
theorem dX8_nameHere_12 : decode cX8_nameHere 12 = .ok (.iconst 1, 1) := by decide +kernel
theorem dX8_nameHere_13 : decode cX8_nameHere 13 = .ok (.if_icmp .ne 105, 3) := by decide +kernel
theorem dX8_nameHere_16 : decode cX8_nameHere 16 = .ok (.aload_n 0, 1) := by decide +kernel
theorem dX8_nameHere_17 : decode cX8_nameHere 17 = .ok (.getfield 90, 3) := by decide +kernel
theorem dX8_nameHere_20 : decode cX8_nameHere 20 = .ok (.aload_n 0, 1) := by decide +kernel
theorem dX8_nameHere_21 : decode cX8_nameHere 21 = .ok (.getfield 81, 3) := by decide +kernel
theorem dX8_nameHere_24 : decode cX8_nameHere 24 = .ok (.isub, 1) := by decide +kernel
theorem dX8_nameHere_25 : decode cX8_nameHere 25 = .ok (.aload_n 0, 1) := by decide +kernel
theorem dX8_nameHere_26 : decode cX8_nameHere 26 = .ok (.getfield 43, 3) := by decide +kernel
theorem dX8_nameHere_29 : decode cX8_nameHere 29 = .ok (.iload_n 1, 1) := by decide +kernel
theorem dX8_nameHere_30 : decode cX8_nameHere 30 = .ok (.iconst 1, 1) := by decide +kernel
theorem dX8_nameHere_31 : decode cX8_nameHere 31 = .ok (.iadd, 1) := by decide +kernel
theorem dX8_nameHere_32 : decode cX8_nameHere 32 = .ok (.iaload, 1) := by decide +kernel
theorem dX8_nameHere_33 : decode cX8_nameHere 33 = .ok (.aload_n 0, 1) := by decide +kernel
theorem dX8_nameHere_34 : decode cX8_nameHere 34 = .ok (.getfield 43, 3) := by decide +kernel
theorem dX8_nameHere_37 : decode cX8_nameHere 37 = .ok (.iload_n 1, 1) := by decide +kernel
theorem dX8_nameHere_38 : decode cX8_nameHere 38 = .ok (.iaload, 1) := by decide +kernel
theorem dX8_nameHere_39 : decode cX8_nameHere 39 = .ok (.isub, 1) := by decide +kernel
theorem dX8_nameHere_40 : decode cX8_nameHere 40 = .ok (.if_icmp .ne 7, 3) := by decide +kernel
theorem dX8_nameHere_43 : decode cX8_nameHere 43 = .ok (.iconst 1, 1) := by decide +kernel
theorem dX8_nameHere_44 : decode cX8_nameHere 44 = .ok (.goto 4, 3) := by decide +kernel
theorem dX8_nameHere_47 : decode cX8_nameHere 47 = .ok (.iconst 0, 1) := by decide +kernel
theorem dX8_nameHere_48 : decode cX8_nameHere 48 = .ok (.istore_n 2, 1) := by decide +kernel
theorem dX8_nameHere_49 : decode cX8_nameHere 49 = .ok (.iconst 0, 1) := by decide +kernel
theorem dX8_nameHere_50 : decode cX8_nameHere 50 = .ok (.istore_n 3, 1) := by decide +kernel
theorem dX8_nameHere_51 : decode cX8_nameHere 51 = .ok (.iload_n 2, 1) := by decide +kernel
theorem dX8_nameHere_52 : decode cX8_nameHere 52 = .ok (.ifCond .eq 54, 3) := by decide +kernel
theorem dX8_nameHere_55 : decode cX8_nameHere 55 = .ok (.iload_n 3, 1) := by decide +kernel
theorem dX8_nameHere_56 : decode cX8_nameHere 56 = .ok (.aload_n 0, 1) := by decide +kernel
theorem dX8_nameHere_57 : decode cX8_nameHere 57 = .ok (.getfield 90, 3) := by decide +kernel
theorem dX8_nameHere_60 : decode cX8_nameHere 60 = .ok (.aload_n 0, 1) := by decide +kernel
theorem dX8_nameHere_61 : decode cX8_nameHere 61 = .ok (.getfield 81, 3) := by decide +kernel
theorem dX8_nameHere_64 : decode cX8_nameHere 64 = .ok (.isub, 1) := by decide +kernel
theorem dX8_nameHere_65 : decode cX8_nameHere 65 = .ok (.if_icmp .ge 41, 3) := by decide +kernel
theorem dX8_nameHere_68 : decode cX8_nameHere 68 = .ok (.aload_n 0, 1) := by decide +kernel
theorem dX8_nameHere_69 : decode cX8_nameHere 69 = .ok (.aload_n 0, 1) := by decide +kernel
theorem dX8_nameHere_70 : decode cX8_nameHere 70 = .ok (.getfield 81, 3) := by decide +kernel
theorem dX8_nameHere_73 : decode cX8_nameHere 73 = .ok (.iload_n 3, 1) := by decide +kernel
theorem dX8_nameHere_74 : decode cX8_nameHere 74 = .ok (.iadd, 1) := by decide +kernel
theorem dX8_nameHere_75 : decode cX8_nameHere 75 = .ok (.invokevirtual 93, 3) := by decide +kernel
theorem dX8_nameHere_78 : decode cX8_nameHere 78 = .ok (.aload_n 0, 1) := by decide +kernel
theorem dX8_nameHere_79 : decode cX8_nameHere 79 = .ok (.getfield 46, 3) := by decide +kernel
theorem dX8_nameHere_82 : decode cX8_nameHere 82 = .ok (.aload_n 0, 1) := by decide +kernel
theorem dX8_nameHere_83 : decode cX8_nameHere 83 = .ok (.getfield 43, 3) := by decide +kernel
theorem dX8_nameHere_86 : decode cX8_nameHere 86 = .ok (.iload_n 1, 1) := by decide +kernel
theorem dX8_nameHere_87 : decode cX8_nameHere 87 = .ok (.iaload, 1) := by decide +kernel
theorem dX8_nameHere_88 : decode cX8_nameHere 88 = .ok (.iload_n 3, 1) := by decide +kernel
theorem dX8_nameHere_89 : decode cX8_nameHere 89 = .ok (.iadd, 1) := by decide +kernel
theorem dX8_nameHere_90 : decode cX8_nameHere 90 = .ok (.iaload, 1) := by decide +kernel
theorem dX8_nameHere_91 : decode cX8_nameHere 91 = .ok (.if_icmp .ne 7, 3) := by decide +kernel
theorem dX8_nameHere_94 : decode cX8_nameHere 94 = .ok (.iconst 1, 1) := by decide +kernel
theorem dX8_nameHere_95 : decode cX8_nameHere 95 = .ok (.goto 4, 3) := by decide +kernel
theorem dX8_nameHere_98 : decode cX8_nameHere 98 = .ok (.iconst 0, 1) := by decide +kernel
theorem dX8_nameHere_99 : decode cX8_nameHere 99 = .ok (.istore_n 2, 1) := by decide +kernel
theorem dX8_nameHere_100 : decode cX8_nameHere 100 = .ok (.iinc 3 1, 3) := by decide +kernel
theorem dX8_nameHere_103 : decode cX8_nameHere 103 = .ok (.goto (-52), 3) := by decide +kernel
theorem dX8_nameHere_106 : decode cX8_nameHere 106 = .ok (.iload_n 2, 1) := by decide +kernel
theorem dX8_nameHere_107 : decode cX8_nameHere 107 = .ok (.ifCond .eq 5, 3) := by decide +kernel
theorem dX8_nameHere_110 : decode cX8_nameHere 110 = .ok (.iload_n 1, 1) := by decide +kernel
theorem dX8_nameHere_111 : decode cX8_nameHere 111 = .ok (.ireturn, 1) := by decide +kernel
theorem dX8_nameHere_112 : decode cX8_nameHere 112 = .ok (.iinc 1 1, 3) := by decide +kernel
theorem dX8_nameHere_115 : decode cX8_nameHere 115 = .ok (.goto (-113), 3) := by decide +kernel
theorem dX8_nameHere_118 : decode cX8_nameHere 118 = .ok (.bipush (-4), 2) := by decide +kernel
theorem dX8_nameHere_120 : decode cX8_nameHere 120 = .ok (.ireturn, 1) := by decide +kernel
theorem dX8_step_0 : decode cX8_step 0 = .ok (.aload_n 0, 1) := by decide +kernel
theorem dX8_step_1 : decode cX8_step 1 = .ok (.getfield 78, 3) := by decide +kernel
theorem dX8_step_4 : decode cX8_step 4 = .ok (.ifCond .le 4, 3) := by decide +kernel
theorem dX8_step_7 : decode cX8_step 7 = .ok (.return_, 1) := by decide +kernel
theorem dX8_step_8 : decode cX8_step 8 = .ok (.aload_n 0, 1) := by decide +kernel
theorem dX8_step_9 : decode cX8_step 9 = .ok (.aload_n 0, 1) := by decide +kernel
theorem dX8_step_10 : decode cX8_step 10 = .ok (.getfield 90, 3) := by decide +kernel
theorem dX8_step_13 : decode cX8_step 13 = .ok (.invokevirtual 93, 3) := by decide +kernel
theorem dX8_step_16 : decode cX8_step 16 = .ok (.bipush 32, 2) := by decide +kernel
theorem dX8_step_18 : decode cX8_step 18 = .ok (.if_icmp .ne 16, 3) := by decide +kernel
theorem dX8_step_21 : decode cX8_step 21 = .ok (.aload_n 0, 1) := by decide +kernel
theorem dX8_step_22 : decode cX8_step 22 = .ok (.dup, 1) := by decide +kernel
theorem dX8_step_23 : decode cX8_step 23 = .ok (.getfield 90, 3) := by decide +kernel
theorem dX8_step_26 : decode cX8_step 26 = .ok (.iconst 1, 1) := by decide +kernel
theorem dX8_step_27 : decode cX8_step 27 = .ok (.iadd, 1) := by decide +kernel
theorem dX8_step_28 : decode cX8_step 28 = .ok (.putfield 90, 3) := by decide +kernel
theorem dX8_step_31 : decode cX8_step 31 = .ok (.goto (-23), 3) := by decide +kernel
theorem dX8_step_34 : decode cX8_step 34 = .ok (.aload_n 0, 1) := by decide +kernel
theorem dX8_step_35 : decode cX8_step 35 = .ok (.aload_n 0, 1) := by decide +kernel
theorem dX8_step_36 : decode cX8_step 36 = .ok (.getfield 90, 3) := by decide +kernel
theorem dX8_step_39 : decode cX8_step 39 = .ok (.putfield 81, 3) := by decide +kernel
theorem dX8_step_42 : decode cX8_step 42 = .ok (.aload_n 0, 1) := by decide +kernel
theorem dX8_step_43 : decode cX8_step 43 = .ok (.aload_n 0, 1) := by decide +kernel
theorem dX8_step_44 : decode cX8_step 44 = .ok (.getfield 90, 3) := by decide +kernel
theorem dX8_step_47 : decode cX8_step 47 = .ok (.invokevirtual 93, 3) := by decide +kernel
theorem dX8_step_50 : decode cX8_step 50 = .ok (.istore_n 1, 1) := by decide +kernel
theorem dX8_step_51 : decode cX8_step 51 = .ok (.aload_n 0, 1) := by decide +kernel
theorem dX8_step_52 : decode cX8_step 52 = .ok (.iconst 0, 1) := by decide +kernel
theorem dX8_step_53 : decode cX8_step 53 = .ok (.putfield 97, 3) := by decide +kernel
theorem dX8_step_56 : decode cX8_step 56 = .ok (.iload_n 1, 1) := by decide +kernel
theorem dX8_step_57 : decode cX8_step 57 = .ok (.bipush (-4), 2) := by decide +kernel
theorem dX8_step_59 : decode cX8_step 59 = .ok (.if_icmp .ne 11, 3) := by decide +kernel
theorem dX8_step_62 : decode cX8_step 62 = .ok (.aload_n 0, 1) := by decide +kernel
theorem dX8_step_63 : decode cX8_step 63 = .ok (.iconst 0, 1) := by decide +kernel
theorem dX8_step_64 : decode cX8_step 64 = .ok (.putfield 87, 3) := by decide +kernel
theorem dX8_step_67 : decode cX8_step 67 = .ok (.goto 202, 3) := by decide +kernel
theorem dX8_step_70 : decode cX8_step 70 = .ok (.iload_n 1, 1) := by decide +kernel
theorem dX8_step_71 : decode cX8_step 71 = .ok (.i2l, 1) := by decide +kernel
theorem dX8_step_72 : decode cX8_step 72 = .ok (.ldc2_w 100, 3) := by decide +kernel
theorem dX8_step_75 : decode cX8_step 75 = .ok (.ldc2_w 102, 3) := by decide +kernel
theorem dX8_step_78 : decode cX8_step 78 = .ok (.invokestatic 70, 3) := by decide +kernel
theorem dX8_step_81 : decode cX8_step 81 = .ok (.ifCond .eq 45, 3) := by decide +kernel
theorem dX8_step_84 : decode cX8_step 84 = .ok (.aload_n 0, 1) := by decide +kernel
theorem dX8_step_85 : decode cX8_step 85 = .ok (.aload_n 0, 1) := by decide +kernel
theorem dX8_step_86 : decode cX8_step 86 = .ok (.getfield 90, 3) := by decide +kernel
theorem dX8_step_89 : decode cX8_step 89 = .ok (.invokevirtual 93, 3) := by decide +kernel
theorem dX8_step_92 : decode cX8_step 92 = .ok (.i2l, 1) := by decide +kernel
theorem dX8_step_93 : decode cX8_step 93 = .ok (.ldc2_w 100, 3) := by decide +kernel
theorem dX8_step_96 : decode cX8_step 96 = .ok (.ldc2_w 102, 3) := by decide +kernel
theorem dX8_step_99 : decode cX8_step 99 = .ok (.invokestatic 70, 3) := by decide +kernel
theorem dX8_step_102 : decode cX8_step 102 = .ok (.ifCond .eq 16, 3) := by decide +kernel
theorem dX8_step_105 : decode cX8_step 105 = .ok (.aload_n 0, 1) := by decide +kernel
theorem dX8_step_106 : decode cX8_step 106 = .ok (.dup, 1) := by decide +kernel
theorem dX8_step_107 : decode cX8_step 107 = .ok (.getfield 90, 3) := by decide +kernel
theorem dX8_step_110 : decode cX8_step 110 = .ok (.iconst 1, 1) := by decide +kernel
theorem dX8_step_111 : decode cX8_step 111 = .ok (.iadd, 1) := by decide +kernel
theorem dX8_step_112 : decode cX8_step 112 = .ok (.putfield 90, 3) := by decide +kernel
theorem dX8_step_115 : decode cX8_step 115 = .ok (.goto (-31), 3) := by decide +kernel
theorem dX8_step_118 : decode cX8_step 118 = .ok (.aload_n 0, 1) := by decide +kernel
theorem dX8_step_119 : decode cX8_step 119 = .ok (.iconst 1, 1) := by decide +kernel
theorem dX8_step_120 : decode cX8_step 120 = .ok (.putfield 87, 3) := by decide +kernel
theorem dX8_step_123 : decode cX8_step 123 = .ok (.goto 146, 3) := by decide +kernel
theorem dX8_step_126 : decode cX8_step 126 = .ok (.iload_n 1, 1) := by decide +kernel
theorem dX8_step_127 : decode cX8_step 127 = .ok (.i2l, 1) := by decide +kernel
theorem dX8_step_128 : decode cX8_step 128 = .ok (.ldc2_w 104, 3) := by decide +kernel
theorem dX8_step_131 : decode cX8_step 131 = .ok (.ldc2_w 106, 3) := by decide +kernel
theorem dX8_step_134 : decode cX8_step 134 = .ok (.invokestatic 70, 3) := by decide +kernel
theorem dX8_step_137 : decode cX8_step 137 = .ok (.ifCond .eq 106, 3) := by decide +kernel
theorem dX8_step_140 : decode cX8_step 140 = .ok (.aload_n 0, 1) := by decide +kernel
theorem dX8_step_141 : decode cX8_step 141 = .ok (.aload_n 0, 1) := by decide +kernel
theorem dX8_step_142 : decode cX8_step 142 = .ok (.getfield 90, 3) := by decide +kernel
theorem dX8_step_145 : decode cX8_step 145 = .ok (.invokevirtual 93, 3) := by decide +kernel
theorem dX8_step_148 : decode cX8_step 148 = .ok (.i2l, 1) := by decide +kernel
theorem dX8_step_149 : decode cX8_step 149 = .ok (.ldc2_w 104, 3) := by decide +kernel
theorem dX8_step_152 : decode cX8_step 152 = .ok (.ldc2_w 106, 3) := by decide +kernel
theorem dX8_step_155 : decode cX8_step 155 = .ok (.invokestatic 70, 3) := by decide +kernel
theorem dX8_step_158 : decode cX8_step 158 = .ok (.ifCond .eq 59, 3) := by decide +kernel
theorem dX8_step_161 : decode cX8_step 161 = .ok (.aload_n 0, 1) := by decide +kernel
theorem dX8_step_162 : decode cX8_step 162 = .ok (.aload_n 0, 1) := by decide +kernel
theorem dX8_step_163 : decode cX8_step 163 = .ok (.getfield 90, 3) := by decide +kernel
theorem dX8_step_166 : decode cX8_step 166 = .ok (.aload_n 0, 1) := by decide +kernel
theorem dX8_step_167 : decode cX8_step 167 = .ok (.getfield 81, 3) := by decide +kernel
theorem dX8_step_170 : decode cX8_step 170 = .ok (.isub, 1) := by decide +kernel
theorem dX8_step_171 : decode cX8_step 171 = .ok (.iconst 2, 1) := by decide +kernel
theorem dX8_step_172 : decode cX8_step 172 = .ok (.if_icmp .ge 25, 3) := by decide +kernel
theorem dX8_step_175 : decode cX8_step 175 = .ok (.bipush 10, 2) := by decide +kernel
theorem dX8_step_177 : decode cX8_step 177 = .ok (.aload_n 0, 1) := by decide +kernel
theorem dX8_step_178 : decode cX8_step 178 = .ok (.getfield 97, 3) := by decide +kernel
theorem dX8_step_181 : decode cX8_step 181 = .ok (.imul, 1) := by decide +kernel
theorem dX8_step_182 : decode cX8_step 182 = .ok (.aload_n 0, 1) := by decide +kernel
theorem dX8_step_183 : decode cX8_step 183 = .ok (.aload_n 0, 1) := by decide +kernel
theorem dX8_step_184 : decode cX8_step 184 = .ok (.getfield 90, 3) := by decide +kernel
theorem dX8_step_187 : decode cX8_step 187 = .ok (.invokevirtual 93, 3) := by decide +kernel
theorem dX8_step_190 : decode cX8_step 190 = .ok (.iadd, 1) := by decide +kernel
theorem dX8_step_191 : decode cX8_step 191 = .ok (.bipush 48, 2) := by decide +kernel
theorem dX8_step_193 : decode cX8_step 193 = .ok (.isub, 1) := by decide +kernel
theorem dX8_step_194 : decode cX8_step 194 = .ok (.goto 7, 3) := by decide +kernel
theorem dX8_step_197 : decode cX8_step 197 = .ok (.aload_n 0, 1) := by decide +kernel
theorem dX8_step_198 : decode cX8_step 198 = .ok (.getfield 97, 3) := by decide +kernel
theorem dX8_step_201 : decode cX8_step 201 = .ok (.putfield 97, 3) := by decide +kernel
theorem dX8_step_204 : decode cX8_step 204 = .ok (.aload_n 0, 1) := by decide +kernel
theorem dX8_step_205 : decode cX8_step 205 = .ok (.dup, 1) := by decide +kernel
theorem dX8_step_206 : decode cX8_step 206 = .ok (.getfield 90, 3) := by decide +kernel
theorem dX8_step_209 : decode cX8_step 209 = .ok (.iconst 1, 1) := by decide +kernel
theorem dX8_step_210 : decode cX8_step 210 = .ok (.iadd, 1) := by decide +kernel
theorem dX8_step_211 : decode cX8_step 211 = .ok (.putfield 90, 3) := by decide +kernel
theorem dX8_step_214 : decode cX8_step 214 = .ok (.goto (-74), 3) := by decide +kernel
theorem dX8_step_217 : decode cX8_step 217 = .ok (.aload_n 0, 1) := by decide +kernel
theorem dX8_step_218 : decode cX8_step 218 = .ok (.iconst 2, 1) := by decide +kernel
theorem dX8_step_219 : decode cX8_step 219 = .ok (.putfield 87, 3) := by decide +kernel
theorem dX8_step_222 : decode cX8_step 222 = .ok (.aload_n 0, 1) := by decide +kernel
theorem dX8_step_223 : decode cX8_step 223 = .ok (.getfield 90, 3) := by decide +kernel
theorem dX8_step_226 : decode cX8_step 226 = .ok (.aload_n 0, 1) := by decide +kernel
theorem dX8_step_227 : decode cX8_step 227 = .ok (.getfield 81, 3) := by decide +kernel
theorem dX8_step_230 : decode cX8_step 230 = .ok (.isub, 1) := by decide +kernel
theorem dX8_step_231 : decode cX8_step 231 = .ok (.iconst 2, 1) := by decide +kernel
theorem dX8_step_232 : decode cX8_step 232 = .ok (.if_icmp .le 37, 3) := by decide +kernel
theorem dX8_step_235 : decode cX8_step 235 = .ok (.aload_n 0, 1) := by decide +kernel
theorem dX8_step_236 : decode cX8_step 236 = .ok (.iconst 1, 1) := by decide +kernel
theorem dX8_step_237 : decode cX8_step 237 = .ok (.invokevirtual 108, 3) := by decide +kernel
theorem dX8_step_240 : decode cX8_step 240 = .ok (.goto 29, 3) := by decide +kernel
theorem dX8_step_243 : decode cX8_step 243 = .ok (.aload_n 0, 1) := by decide +kernel
theorem dX8_step_244 : decode cX8_step 244 = .ok (.iconst 3, 1) := by decide +kernel
theorem dX8_step_245 : decode cX8_step 245 = .ok (.putfield 87, 3) := by decide +kernel
theorem dX8_step_248 : decode cX8_step 248 = .ok (.aload_n 0, 1) := by decide +kernel
theorem dX8_step_249 : decode cX8_step 249 = .ok (.dup, 1) := by decide +kernel
theorem dX8_step_250 : decode cX8_step 250 = .ok (.getfield 90, 3) := by decide +kernel
theorem dX8_step_253 : decode cX8_step 253 = .ok (.iconst 1, 1) := by decide +kernel
theorem dX8_step_254 : decode cX8_step 254 = .ok (.iadd, 1) := by decide +kernel
theorem dX8_step_255 : decode cX8_step 255 = .ok (.putfield 90, 3) := by decide +kernel
theorem dX8_step_258 : decode cX8_step 258 = .ok (.iload_n 1, 1) := by decide +kernel
theorem dX8_step_259 : decode cX8_step 259 = .ok (.bipush 59, 2) := by decide +kernel
theorem dX8_step_261 : decode cX8_step 261 = .ok (.if_icmp .eq 8, 3) := by decide +kernel
theorem dX8_step_264 : decode cX8_step 264 = .ok (.aload_n 0, 1) := by decide +kernel
theorem dX8_step_265 : decode cX8_step 265 = .ok (.iconst 1, 1) := by decide +kernel
theorem dX8_step_266 : decode cX8_step 266 = .ok (.invokevirtual 108, 3) := by decide +kernel
theorem dX8_step_269 : decode cX8_step 269 = .ok (.return_, 1) := by decide +kernel
theorem dX8_number_0 : decode cX8_number 0 = .ok (.aload_n 0, 1) := by decide +kernel
theorem dX8_number_1 : decode cX8_number 1 = .ok (.getfield 78, 3) := by decide +kernel
theorem dX8_number_4 : decode cX8_number 4 = .ok (.ifCond .ne 16, 3) := by decide +kernel
theorem dX8_number_7 : decode cX8_number 7 = .ok (.aload_n 0, 1) := by decide +kernel
theorem dX8_number_8 : decode cX8_number 8 = .ok (.getfield 87, 3) := by decide +kernel
theorem dX8_number_11 : decode cX8_number 11 = .ok (.iconst 2, 1) := by decide +kernel
theorem dX8_number_12 : decode cX8_number 12 = .ok (.if_icmp .eq 8, 3) := by decide +kernel
theorem dX8_number_15 : decode cX8_number 15 = .ok (.aload_n 0, 1) := by decide +kernel
theorem dX8_number_16 : decode cX8_number 16 = .ok (.iconst 2, 1) := by decide +kernel
theorem dX8_number_17 : decode cX8_number 17 = .ok (.invokevirtual 108, 3) := by decide +kernel
theorem dX8_number_20 : decode cX8_number 20 = .ok (.aload_n 0, 1) := by decide +kernel
theorem dX8_number_21 : decode cX8_number 21 = .ok (.getfield 78, 3) := by decide +kernel
theorem dX8_number_24 : decode cX8_number 24 = .ok (.ifCond .ne 23, 3) := by decide +kernel
theorem dX8_number_27 : decode cX8_number 27 = .ok (.aload_n 0, 1) := by decide +kernel
theorem dX8_number_28 : decode cX8_number 28 = .ok (.getfield 97, 3) := by decide +kernel
theorem dX8_number_31 : decode cX8_number 31 = .ok (.i2l, 1) := by decide +kernel
theorem dX8_number_32 : decode cX8_number 32 = .ok (.iload_n 1, 1) := by decide +kernel
theorem dX8_number_33 : decode cX8_number 33 = .ok (.i2l, 1) := by decide +kernel
theorem dX8_number_34 : decode cX8_number 34 = .ok (.iload_n 2, 1) := by decide +kernel
theorem dX8_number_35 : decode cX8_number 35 = .ok (.i2l, 1) := by decide +kernel
theorem dX8_number_36 : decode cX8_number 36 = .ok (.invokestatic 70, 3) := by decide +kernel
theorem dX8_number_39 : decode cX8_number 39 = .ok (.ifCond .ne 8, 3) := by decide +kernel
theorem dX8_number_42 : decode cX8_number 42 = .ok (.aload_n 0, 1) := by decide +kernel
theorem dX8_number_43 : decode cX8_number 43 = .ok (.iconst 3, 1) := by decide +kernel
theorem dX8_number_44 : decode cX8_number 44 = .ok (.invokevirtual 108, 3) := by decide +kernel
theorem dX8_number_47 : decode cX8_number 47 = .ok (.aload_n 0, 1) := by decide +kernel
theorem dX8_number_48 : decode cX8_number 48 = .ok (.getfield 78, 3) := by decide +kernel
theorem dX8_number_51 : decode cX8_number 51 = .ok (.ifCond .ne 10, 3) := by decide +kernel
theorem dX8_number_54 : decode cX8_number 54 = .ok (.aload_n 0, 1) := by decide +kernel
theorem dX8_number_55 : decode cX8_number 55 = .ok (.getfield 97, 3) := by decide +kernel
theorem dX8_number_58 : decode cX8_number 58 = .ok (.goto 4, 3) := by decide +kernel
theorem dX8_number_61 : decode cX8_number 61 = .ok (.iload_n 1, 1) := by decide +kernel
theorem dX8_number_62 : decode cX8_number 62 = .ok (.istore_n 3, 1) := by decide +kernel
theorem dX8_number_63 : decode cX8_number 63 = .ok (.aload_n 0, 1) := by decide +kernel
theorem dX8_number_64 : decode cX8_number 64 = .ok (.invokevirtual 112, 3) := by decide +kernel
theorem dX8_number_67 : decode cX8_number 67 = .ok (.iload_n 3, 1) := by decide +kernel
theorem dX8_number_68 : decode cX8_number 68 = .ok (.ireturn, 1) := by decide +kernel
theorem dX8_readOrder_0 : decode cX8_readOrder 0 = .ok (.aload_n 0, 1) := by decide +kernel
theorem dX8_readOrder_1 : decode cX8_readOrder 1 = .ok (.invokevirtual 115, 3) := by decide +kernel
theorem dX8_readOrder_4 : decode cX8_readOrder 4 = .ok (.bipush 8, 2) := by decide +kernel
theorem dX8_readOrder_6 : decode cX8_readOrder 6 = .ok (.isub, 1) := by decide +kernel
theorem dX8_readOrder_7 : decode cX8_readOrder 7 = .ok (.istore_n 1, 1) := by decide +kernel
theorem dX8_readOrder_8 : decode cX8_readOrder 8 = .ok (.aload_n 0, 1) := by decide +kernel
theorem dX8_readOrder_9 : decode cX8_readOrder 9 = .ok (.getfield 78, 3) := by decide +kernel
theorem dX8_readOrder_12 : decode cX8_readOrder 12 = .ok (.ifCond .ne 12, 3) := by decide +kernel
theorem dX8_readOrder_15 : decode cX8_readOrder 15 = .ok (.iload_n 1, 1) := by decide +kernel
theorem dX8_readOrder_16 : decode cX8_readOrder 16 = .ok (.ifCond .ge 8, 3) := by decide +kernel
theorem dX8_readOrder_19 : decode cX8_readOrder 19 = .ok (.aload_n 0, 1) := by decide +kernel
theorem dX8_readOrder_20 : decode cX8_readOrder 20 = .ok (.iconst 2, 1) := by decide +kernel
theorem dX8_readOrder_21 : decode cX8_readOrder 21 = .ok (.invokevirtual 108, 3) := by decide +kernel
theorem dX8_readOrder_24 : decode cX8_readOrder 24 = .ok (.aload_n 0, 1) := by decide +kernel
theorem dX8_readOrder_25 : decode cX8_readOrder 25 = .ok (.getfield 22, 3) := by decide +kernel
theorem dX8_readOrder_28 : decode cX8_readOrder 28 = .ok (.aload_n 0, 1) := by decide +kernel
theorem dX8_readOrder_29 : decode cX8_readOrder 29 = .ok (.getfield 119, 3) := by decide +kernel
theorem dX8_readOrder_32 : decode cX8_readOrder 32 = .ok (.iload_n 1, 1) := by decide +kernel
theorem dX8_readOrder_33 : decode cX8_readOrder 33 = .ok (.iastore, 1) := by decide +kernel
theorem dX8_readOrder_34 : decode cX8_readOrder 34 = .ok (.aload_n 0, 1) := by decide +kernel
theorem dX8_readOrder_35 : decode cX8_readOrder 35 = .ok (.invokevirtual 112, 3) := by decide +kernel
theorem dX8_readOrder_38 : decode cX8_readOrder 38 = .ok (.aload_n 0, 1) := by decide +kernel
theorem dX8_readOrder_39 : decode cX8_readOrder 39 = .ok (.getfield 31, 3) := by decide +kernel
theorem dX8_readOrder_42 : decode cX8_readOrder 42 = .ok (.aload_n 0, 1) := by decide +kernel
theorem dX8_readOrder_43 : decode cX8_readOrder 43 = .ok (.getfield 119, 3) := by decide +kernel
theorem dX8_readOrder_46 : decode cX8_readOrder 46 = .ok (.aload_n 0, 1) := by decide +kernel
theorem dX8_readOrder_47 : decode cX8_readOrder 47 = .ok (.iconst 1, 1) := by decide +kernel
theorem dX8_readOrder_48 : decode cX8_readOrder 48 = .ok (.bipush 6, 2) := by decide +kernel
theorem dX8_readOrder_50 : decode cX8_readOrder 50 = .ok (.invokevirtual 122, 3) := by decide +kernel
theorem dX8_readOrder_53 : decode cX8_readOrder 53 = .ok (.iastore, 1) := by decide +kernel
theorem dX8_readOrder_54 : decode cX8_readOrder 54 = .ok (.aload_n 0, 1) := by decide +kernel
theorem dX8_readOrder_55 : decode cX8_readOrder 55 = .ok (.aload_n 0, 1) := by decide +kernel
theorem dX8_readOrder_56 : decode cX8_readOrder 56 = .ok (.getfield 31, 3) := by decide +kernel
theorem dX8_readOrder_59 : decode cX8_readOrder 59 = .ok (.aload_n 0, 1) := by decide +kernel
theorem dX8_readOrder_60 : decode cX8_readOrder 60 = .ok (.getfield 119, 3) := by decide +kernel
theorem dX8_readOrder_63 : decode cX8_readOrder 63 = .ok (.iaload, 1) := by decide +kernel
theorem dX8_readOrder_64 : decode cX8_readOrder 64 = .ok (.aload_n 0, 1) := by decide +kernel
theorem dX8_readOrder_65 : decode cX8_readOrder 65 = .ok (.getfield 126, 3) := by decide +kernel
theorem dX8_readOrder_68 : decode cX8_readOrder 68 = .ok (.if_icmp .le 15, 3) := by decide +kernel
theorem dX8_readOrder_71 : decode cX8_readOrder 71 = .ok (.aload_n 0, 1) := by decide +kernel
theorem dX8_readOrder_72 : decode cX8_readOrder 72 = .ok (.getfield 31, 3) := by decide +kernel
theorem dX8_readOrder_75 : decode cX8_readOrder 75 = .ok (.aload_n 0, 1) := by decide +kernel
theorem dX8_readOrder_76 : decode cX8_readOrder 76 = .ok (.getfield 119, 3) := by decide +kernel
theorem dX8_readOrder_79 : decode cX8_readOrder 79 = .ok (.iaload, 1) := by decide +kernel
theorem dX8_readOrder_80 : decode cX8_readOrder 80 = .ok (.goto 7, 3) := by decide +kernel
theorem dX8_readOrder_83 : decode cX8_readOrder 83 = .ok (.aload_n 0, 1) := by decide +kernel
theorem dX8_readOrder_84 : decode cX8_readOrder 84 = .ok (.getfield 126, 3) := by decide +kernel
theorem dX8_readOrder_87 : decode cX8_readOrder 87 = .ok (.putfield 126, 3) := by decide +kernel
theorem dX8_readOrder_90 : decode cX8_readOrder 90 = .ok (.aload_n 0, 1) := by decide +kernel
theorem dX8_readOrder_91 : decode cX8_readOrder 91 = .ok (.getfield 22, 3) := by decide +kernel
theorem dX8_readOrder_94 : decode cX8_readOrder 94 = .ok (.iconst 5, 1) := by decide +kernel
theorem dX8_readOrder_95 : decode cX8_readOrder 95 = .ok (.aload_n 0, 1) := by decide +kernel
theorem dX8_readOrder_96 : decode cX8_readOrder 96 = .ok (.getfield 119, 3) := by decide +kernel
theorem dX8_readOrder_99 : decode cX8_readOrder 99 = .ok (.iadd, 1) := by decide +kernel
theorem dX8_readOrder_100 : decode cX8_readOrder 100 = .ok (.aload_n 0, 1) := by decide +kernel
theorem dX8_readOrder_101 : decode cX8_readOrder 101 = .ok (.iconst 1, 1) := by decide +kernel
theorem dX8_readOrder_102 : decode cX8_readOrder 102 = .ok (.bipush 9, 2) := by decide +kernel
theorem dX8_readOrder_104 : decode cX8_readOrder 104 = .ok (.invokevirtual 122, 3) := by decide +kernel
theorem dX8_readOrder_107 : decode cX8_readOrder 107 = .ok (.iastore, 1) := by decide +kernel
theorem dX8_readOrder_108 : decode cX8_readOrder 108 = .ok (.aload_n 0, 1) := by decide +kernel
theorem dX8_readOrder_109 : decode cX8_readOrder 109 = .ok (.getfield 22, 3) := by decide +kernel
theorem dX8_readOrder_112 : decode cX8_readOrder 112 = .ok (.bipush 10, 2) := by decide +kernel
theorem dX8_readOrder_114 : decode cX8_readOrder 114 = .ok (.aload_n 0, 1) := by decide +kernel
theorem dX8_readOrder_115 : decode cX8_readOrder 115 = .ok (.getfield 119, 3) := by decide +kernel
theorem dX8_readOrder_118 : decode cX8_readOrder 118 = .ok (.iadd, 1) := by decide +kernel
theorem dX8_readOrder_119 : decode cX8_readOrder 119 = .ok (.aload_n 0, 1) := by decide +kernel
theorem dX8_readOrder_120 : decode cX8_readOrder 120 = .ok (.iconst 0, 1) := by decide +kernel
theorem dX8_readOrder_121 : decode cX8_readOrder 121 = .ok (.bipush 9, 2) := by decide +kernel
theorem dX8_readOrder_123 : decode cX8_readOrder 123 = .ok (.invokevirtual 122, 3) := by decide +kernel
theorem dX8_readOrder_126 : decode cX8_readOrder 126 = .ok (.iastore, 1) := by decide +kernel
theorem dX8_readOrder_127 : decode cX8_readOrder 127 = .ok (.aload_n 0, 1) := by decide +kernel
theorem dX8_readOrder_128 : decode cX8_readOrder 128 = .ok (.getfield 22, 3) := by decide +kernel
theorem dX8_readOrder_131 : decode cX8_readOrder 131 = .ok (.bipush 15, 2) := by decide +kernel
theorem dX8_readOrder_133 : decode cX8_readOrder 133 = .ok (.aload_n 0, 1) := by decide +kernel
theorem dX8_readOrder_134 : decode cX8_readOrder 134 = .ok (.getfield 119, 3) := by decide +kernel
theorem dX8_readOrder_137 : decode cX8_readOrder 137 = .ok (.iadd, 1) := by decide +kernel
theorem dX8_readOrder_138 : decode cX8_readOrder 138 = .ok (.aload_n 0, 1) := by decide +kernel
theorem dX8_readOrder_139 : decode cX8_readOrder 139 = .ok (.iconst 0, 1) := by decide +kernel
theorem dX8_readOrder_140 : decode cX8_readOrder 140 = .ok (.bipush 99, 2) := by decide +kernel
theorem dX8_readOrder_142 : decode cX8_readOrder 142 = .ok (.invokevirtual 122, 3) := by decide +kernel
theorem dX8_readOrder_145 : decode cX8_readOrder 145 = .ok (.iastore, 1) := by decide +kernel
theorem dX8_readOrder_146 : decode cX8_readOrder 146 = .ok (.aload_n 0, 1) := by decide +kernel
theorem dX8_readOrder_147 : decode cX8_readOrder 147 = .ok (.dup, 1) := by decide +kernel
theorem dX8_readOrder_148 : decode cX8_readOrder 148 = .ok (.getfield 119, 3) := by decide +kernel
theorem dX8_readOrder_151 : decode cX8_readOrder 151 = .ok (.iconst 1, 1) := by decide +kernel
theorem dX8_readOrder_152 : decode cX8_readOrder 152 = .ok (.iadd, 1) := by decide +kernel
theorem dX8_readOrder_153 : decode cX8_readOrder 153 = .ok (.putfield 119, 3) := by decide +kernel
theorem dX8_readOrder_156 : decode cX8_readOrder 156 = .ok (.return_, 1) := by decide +kernel
theorem dX8_readRow_0 : decode cX8_readRow 0 = .ok (.iconst 0, 1) := by decide +kernel
theorem dX8_readRow_1 : decode cX8_readRow 1 = .ok (.istore_n 2, 1) := by decide +kernel
theorem dX8_readRow_2 : decode cX8_readRow 2 = .ok (.aload_n 0, 1) := by decide +kernel
theorem dX8_readRow_3 : decode cX8_readRow 3 = .ok (.getfield 78, 3) := by decide +kernel
theorem dX8_readRow_6 : decode cX8_readRow 6 = .ok (.ifCond .ne 122, 3) := by decide +kernel
theorem dX8_readRow_9 : decode cX8_readRow 9 = .ok (.aload_n 0, 1) := by decide +kernel
theorem dX8_readRow_10 : decode cX8_readRow 10 = .ok (.getfield 87, 3) := by decide +kernel
theorem dX8_readRow_13 : decode cX8_readRow 13 = .ok (.iconst 2, 1) := by decide +kernel
theorem dX8_readRow_14 : decode cX8_readRow 14 = .ok (.if_icmp .ne 114, 3) := by decide +kernel
theorem dX8_readRow_17 : decode cX8_readRow 17 = .ok (.aload_n 0, 1) := by decide +kernel
theorem dX8_readRow_18 : decode cX8_readRow 18 = .ok (.getfield 97, 3) := by decide +kernel
theorem dX8_readRow_21 : decode cX8_readRow 21 = .ok (.i2l, 1) := by decide +kernel
theorem dX8_readRow_22 : decode cX8_readRow 22 = .ok (.lconst 0, 1) := by decide +kernel
theorem dX8_readRow_23 : decode cX8_readRow 23 = .ok (.ldc2_w 129, 3) := by decide +kernel
theorem dX8_readRow_26 : decode cX8_readRow 26 = .ok (.invokestatic 70, 3) := by decide +kernel
theorem dX8_readRow_29 : decode cX8_readRow 29 = .ok (.ifCond .eq 20, 3) := by decide +kernel
theorem dX8_readRow_32 : decode cX8_readRow 32 = .ok (.iload_n 2, 1) := by decide +kernel
theorem dX8_readRow_33 : decode cX8_readRow 33 = .ok (.aload_n 0, 1) := by decide +kernel
theorem dX8_readRow_34 : decode cX8_readRow 34 = .ok (.getfield 97, 3) := by decide +kernel
theorem dX8_readRow_37 : decode cX8_readRow 37 = .ok (.ishr, 1) := by decide +kernel
theorem dX8_readRow_38 : decode cX8_readRow 38 = .ok (.iconst 1, 1) := by decide +kernel
theorem dX8_readRow_39 : decode cX8_readRow 39 = .ok (.iand, 1) := by decide +kernel
theorem dX8_readRow_40 : decode cX8_readRow 40 = .ok (.iconst 1, 1) := by decide +kernel
theorem dX8_readRow_41 : decode cX8_readRow 41 = .ok (.if_icmp .ne 8, 3) := by decide +kernel
theorem dX8_readRow_44 : decode cX8_readRow 44 = .ok (.aload_n 0, 1) := by decide +kernel
theorem dX8_readRow_45 : decode cX8_readRow 45 = .ok (.iconst 4, 1) := by decide +kernel
theorem dX8_readRow_46 : decode cX8_readRow 46 = .ok (.invokevirtual 108, 3) := by decide +kernel
theorem dX8_readRow_49 : decode cX8_readRow 49 = .ok (.aload_n 0, 1) := by decide +kernel
theorem dX8_readRow_50 : decode cX8_readRow 50 = .ok (.iconst 0, 1) := by decide +kernel
theorem dX8_readRow_51 : decode cX8_readRow 51 = .ok (.iconst 4, 1) := by decide +kernel
theorem dX8_readRow_52 : decode cX8_readRow 52 = .ok (.invokevirtual 122, 3) := by decide +kernel
theorem dX8_readRow_55 : decode cX8_readRow 55 = .ok (.istore_n 3, 1) := by decide +kernel
theorem dX8_readRow_56 : decode cX8_readRow 56 = .ok (.iload_n 2, 1) := by decide +kernel
theorem dX8_readRow_57 : decode cX8_readRow 57 = .ok (.iconst 1, 1) := by decide +kernel
theorem dX8_readRow_58 : decode cX8_readRow 58 = .ok (.iload_n 3, 1) := by decide +kernel
theorem dX8_readRow_59 : decode cX8_readRow 59 = .ok (.ishl, 1) := by decide +kernel
theorem dX8_readRow_60 : decode cX8_readRow 60 = .ok (.ior, 1) := by decide +kernel
theorem dX8_readRow_61 : decode cX8_readRow 61 = .ok (.istore_n 2, 1) := by decide +kernel
theorem dX8_readRow_62 : decode cX8_readRow 62 = .ok (.aload_n 0, 1) := by decide +kernel
theorem dX8_readRow_63 : decode cX8_readRow 63 = .ok (.iload_n 3, 1) := by decide +kernel
theorem dX8_readRow_64 : decode cX8_readRow 64 = .ok (.aload_n 0, 1) := by decide +kernel
theorem dX8_readRow_65 : decode cX8_readRow 65 = .ok (.getfield 131, 3) := by decide +kernel
theorem dX8_readRow_68 : decode cX8_readRow 68 = .ok (.if_icmp .le 7, 3) := by decide +kernel
theorem dX8_readRow_71 : decode cX8_readRow 71 = .ok (.iload_n 3, 1) := by decide +kernel
theorem dX8_readRow_72 : decode cX8_readRow 72 = .ok (.goto 7, 3) := by decide +kernel
theorem dX8_readRow_75 : decode cX8_readRow 75 = .ok (.aload_n 0, 1) := by decide +kernel
theorem dX8_readRow_76 : decode cX8_readRow 76 = .ok (.getfield 131, 3) := by decide +kernel
theorem dX8_readRow_79 : decode cX8_readRow 79 = .ok (.putfield 131, 3) := by decide +kernel
theorem dX8_readRow_82 : decode cX8_readRow 82 = .ok (.aload_n 0, 1) := by decide +kernel
theorem dX8_readRow_83 : decode cX8_readRow 83 = .ok (.getfield 78, 3) := by decide +kernel
theorem dX8_readRow_86 : decode cX8_readRow 86 = .ok (.ifCond .eq 13, 3) := by decide +kernel
theorem dX8_readRow_89 : decode cX8_readRow 89 = .ok (.aload_n 0, 1) := by decide +kernel
theorem dX8_readRow_90 : decode cX8_readRow 90 = .ok (.getfield 37, 3) := by decide +kernel
theorem dX8_readRow_93 : decode cX8_readRow 93 = .ok (.iload_n 1, 1) := by decide +kernel
theorem dX8_readRow_94 : decode cX8_readRow 94 = .ok (.iaload, 1) := by decide +kernel
theorem dX8_readRow_95 : decode cX8_readRow 95 = .ok (.iconst 5, 1) := by decide +kernel
theorem dX8_readRow_96 : decode cX8_readRow 96 = .ok (.if_icmp .ge 29, 3) := by decide +kernel
theorem dX8_readRow_99 : decode cX8_readRow 99 = .ok (.aload_n 0, 1) := by decide +kernel
theorem dX8_readRow_100 : decode cX8_readRow 100 = .ok (.getfield 34, 3) := by decide +kernel
theorem dX8_readRow_103 : decode cX8_readRow 103 = .ok (.iconst 5, 1) := by decide +kernel
theorem dX8_readRow_104 : decode cX8_readRow 104 = .ok (.iload_n 1, 1) := by decide +kernel
theorem dX8_readRow_105 : decode cX8_readRow 105 = .ok (.imul, 1) := by decide +kernel
theorem dX8_readRow_106 : decode cX8_readRow 106 = .ok (.aload_n 0, 1) := by decide +kernel
theorem dX8_readRow_107 : decode cX8_readRow 107 = .ok (.getfield 37, 3) := by decide +kernel
theorem dX8_readRow_110 : decode cX8_readRow 110 = .ok (.iload_n 1, 1) := by decide +kernel
theorem dX8_readRow_111 : decode cX8_readRow 111 = .ok (.iaload, 1) := by decide +kernel
theorem dX8_readRow_112 : decode cX8_readRow 112 = .ok (.iadd, 1) := by decide +kernel
theorem dX8_readRow_113 : decode cX8_readRow 113 = .ok (.iload_n 3, 1) := by decide +kernel
theorem dX8_readRow_114 : decode cX8_readRow 114 = .ok (.iastore, 1) := by decide +kernel
theorem dX8_readRow_115 : decode cX8_readRow 115 = .ok (.aload_n 0, 1) := by decide +kernel
theorem dX8_readRow_116 : decode cX8_readRow 116 = .ok (.getfield 37, 3) := by decide +kernel
theorem dX8_readRow_119 : decode cX8_readRow 119 = .ok (.iload_n 1, 1) := by decide +kernel
theorem dX8_readRow_120 : decode cX8_readRow 120 = .ok (.dup2, 1) := by decide +kernel
theorem dX8_readRow_121 : decode cX8_readRow 121 = .ok (.iaload, 1) := by decide +kernel
theorem dX8_readRow_122 : decode cX8_readRow 122 = .ok (.iconst 1, 1) := by decide +kernel
theorem dX8_readRow_123 : decode cX8_readRow 123 = .ok (.iadd, 1) := by decide +kernel
theorem dX8_readRow_124 : decode cX8_readRow 124 = .ok (.iastore, 1) := by decide +kernel
theorem dX8_readRow_125 : decode cX8_readRow 125 = .ok (.goto (-123), 3) := by decide +kernel
theorem dX8_readRow_128 : decode cX8_readRow 128 = .ok (.return_, 1) := by decide +kernel
theorem dX8_readMore_0 : decode cX8_readMore 0 = .ok (.iload_n 1, 1) := by decide +kernel
theorem dX8_readMore_1 : decode cX8_readMore 1 = .ok (.iconst 2, 1) := by decide +kernel
theorem dX8_readMore_2 : decode cX8_readMore 2 = .ok (.if_icmp .gt 42, 3) := by decide +kernel
theorem dX8_readMore_5 : decode cX8_readMore 5 = .ok (.aload_n 0, 1) := by decide +kernel
theorem dX8_readMore_6 : decode cX8_readMore 6 = .ok (.getfield 28, 3) := by decide +kernel
theorem dX8_readMore_9 : decode cX8_readMore 9 = .ok (.aload_n 0, 1) := by decide +kernel
theorem dX8_readMore_10 : decode cX8_readMore 10 = .ok (.getfield 134, 3) := by decide +kernel
theorem dX8_readMore_13 : decode cX8_readMore 13 = .ok (.iload_n 1, 1) := by decide +kernel
theorem dX8_readMore_14 : decode cX8_readMore 14 = .ok (.iastore, 1) := by decide +kernel
theorem dX8_readMore_15 : decode cX8_readMore 15 = .ok (.aload_n 0, 1) := by decide +kernel
theorem dX8_readMore_16 : decode cX8_readMore 16 = .ok (.getfield 25, 3) := by decide +kernel
theorem dX8_readMore_19 : decode cX8_readMore 19 = .ok (.aload_n 0, 1) := by decide +kernel
theorem dX8_readMore_20 : decode cX8_readMore 20 = .ok (.getfield 134, 3) := by decide +kernel
theorem dX8_readMore_23 : decode cX8_readMore 23 = .ok (.aload_n 0, 1) := by decide +kernel
theorem dX8_readMore_24 : decode cX8_readMore 24 = .ok (.iconst 1, 1) := by decide +kernel
theorem dX8_readMore_25 : decode cX8_readMore 25 = .ok (.bipush 9, 2) := by decide +kernel
