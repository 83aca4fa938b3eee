theorem dX0_init_0 : decode cX0_init 0 = .ok (.aload_n 0, 1) := by decide +kernel
theorem dX0_init_1 : decode cX0_init 1 = .ok (.invokespecial 1, 3) := by decide +kernel
theorem dX0_init_4 : decode cX0_init 4 = .ok (.return_, 1) := by decide +kernel
theorem dX0_clear_0 : decode cX0_clear 0 = .ok (.aload_n 0, 1) := by decide +kernel
theorem dX0_clear_1 : decode cX0_clear 1 = .ok (.iconst 0, 1) := by decide +kernel
theorem dX0_clear_2 : decode cX0_clear 2 = .ok (.putfield 7, 3) := by decide +kernel
theorem dX0_clear_5 : decode cX0_clear 5 = .ok (.return_, 1) := by decide +kernel
theorem dX0_isBeatenBy_0 : decode cX0_isBeatenBy 0 = .ok (.aload_n 0, 1) := by decide +kernel
theorem dX0_isBeatenBy_1 : decode cX0_isBeatenBy 1 = .ok (.getfield 7, 3) := by decide +kernel
theorem dX0_isBeatenBy_4 : decode cX0_isBeatenBy 4 = .ok (.ifCond .eq 27, 3) := by decide +kernel
theorem dX0_isBeatenBy_7 : decode cX0_isBeatenBy 7 = .ok (.iload_n 1, 1) := by decide +kernel
theorem dX0_isBeatenBy_8 : decode cX0_isBeatenBy 8 = .ok (.aload_n 0, 1) := by decide +kernel
theorem dX0_isBeatenBy_9 : decode cX0_isBeatenBy 9 = .ok (.getfield 13, 3) := by decide +kernel
theorem dX0_isBeatenBy_12 : decode cX0_isBeatenBy 12 = .ok (.if_icmp .gt 19, 3) := by decide +kernel
theorem dX0_isBeatenBy_15 : decode cX0_isBeatenBy 15 = .ok (.iload_n 1, 1) := by decide +kernel
theorem dX0_isBeatenBy_16 : decode cX0_isBeatenBy 16 = .ok (.aload_n 0, 1) := by decide +kernel
theorem dX0_isBeatenBy_17 : decode cX0_isBeatenBy 17 = .ok (.getfield 13, 3) := by decide +kernel
theorem dX0_isBeatenBy_20 : decode cX0_isBeatenBy 20 = .ok (.if_icmp .ne 15, 3) := by decide +kernel
theorem dX0_isBeatenBy_23 : decode cX0_isBeatenBy 23 = .ok (.iload_n 2, 1) := by decide +kernel
theorem dX0_isBeatenBy_24 : decode cX0_isBeatenBy 24 = .ok (.aload_n 0, 1) := by decide +kernel
theorem dX0_isBeatenBy_25 : decode cX0_isBeatenBy 25 = .ok (.getfield 17, 3) := by decide +kernel
theorem dX0_isBeatenBy_28 : decode cX0_isBeatenBy 28 = .ok (.if_icmp .ge 7, 3) := by decide +kernel
theorem dX0_isBeatenBy_31 : decode cX0_isBeatenBy 31 = .ok (.iconst 1, 1) := by decide +kernel
theorem dX0_isBeatenBy_32 : decode cX0_isBeatenBy 32 = .ok (.goto 4, 3) := by decide +kernel
theorem dX0_isBeatenBy_35 : decode cX0_isBeatenBy 35 = .ok (.iconst 0, 1) := by decide +kernel
theorem dX0_isBeatenBy_36 : decode cX0_isBeatenBy 36 = .ok (.ireturn, 1) := by decide +kernel
theorem dX0_become_0 : decode cX0_become 0 = .ok (.aload_n 0, 1) := by decide +kernel
theorem dX0_become_1 : decode cX0_become 1 = .ok (.iconst 1, 1) := by decide +kernel
theorem dX0_become_2 : decode cX0_become 2 = .ok (.putfield 7, 3) := by decide +kernel
theorem dX0_become_5 : decode cX0_become 5 = .ok (.aload_n 0, 1) := by decide +kernel
theorem dX0_become_6 : decode cX0_become 6 = .ok (.iload_n 1, 1) := by decide +kernel
theorem dX0_become_7 : decode cX0_become 7 = .ok (.putfield 13, 3) := by decide +kernel
theorem dX0_become_10 : decode cX0_become 10 = .ok (.aload_n 0, 1) := by decide +kernel
theorem dX0_become_11 : decode cX0_become 11 = .ok (.iload_n 2, 1) := by decide +kernel
theorem dX0_become_12 : decode cX0_become 12 = .ok (.putfield 17, 3) := by decide +kernel
theorem dX0_become_15 : decode cX0_become 15 = .ok (.aload_n 0, 1) := by decide +kernel
theorem dX0_become_16 : decode cX0_become 16 = .ok (.iload_n 3, 1) := by decide +kernel
theorem dX0_become_17 : decode cX0_become 17 = .ok (.putfield 20, 3) := by decide +kernel
theorem dX0_become_20 : decode cX0_become 20 = .ok (.aload_n 0, 1) := by decide +kernel
theorem dX0_become_21 : decode cX0_become 21 = .ok (.iload 4, 2) := by decide +kernel
theorem dX0_become_23 : decode cX0_become 23 = .ok (.putfield 23, 3) := by decide +kernel
theorem dX0_become_26 : decode cX0_become 26 = .ok (.return_, 1) := by decide +kernel
theorem dX1_init_0 : decode cX1_init 0 = .ok (.aload_n 0, 1) := by decide +kernel
theorem dX1_init_1 : decode cX1_init 1 = .ok (.invokespecial 3, 3) := by decide +kernel
theorem dX1_init_4 : decode cX1_init 4 = .ok (.aload_n 0, 1) := by decide +kernel
theorem dX1_init_5 : decode cX1_init 5 = .ok (.new 9, 3) := by decide +kernel
theorem dX1_init_8 : decode cX1_init 8 = .ok (.dup, 1) := by decide +kernel
theorem dX1_init_9 : decode cX1_init 9 = .ok (.invokespecial 11, 3) := by decide +kernel
theorem dX1_init_12 : decode cX1_init 12 = .ok (.putfield 12, 3) := by decide +kernel
theorem dX1_init_15 : decode cX1_init 15 = .ok (.aload_n 0, 1) := by decide +kernel
theorem dX1_init_16 : decode cX1_init 16 = .ok (.aload_n 1, 1) := by decide +kernel
theorem dX1_init_17 : decode cX1_init 17 = .ok (.putfield 18, 3) := by decide +kernel
theorem dX1_init_20 : decode cX1_init 20 = .ok (.return_, 1) := by decide +kernel
theorem dX1_readTape_0 : decode cX1_readTape 0 = .ok (.aload_n 0, 1) := by decide +kernel
theorem dX1_readTape_1 : decode cX1_readTape 1 = .ok (.getfield 12, 3) := by decide +kernel
theorem dX1_readTape_4 : decode cX1_readTape 4 = .ok (.invokevirtual 22, 3) := by decide +kernel
theorem dX1_readTape_7 : decode cX1_readTape 7 = .ok (.aload_n 0, 1) := by decide +kernel
theorem dX1_readTape_8 : decode cX1_readTape 8 = .ok (.iconst 0, 1) := by decide +kernel
theorem dX1_readTape_9 : decode cX1_readTape 9 = .ok (.putfield 25, 3) := by decide +kernel
theorem dX1_readTape_12 : decode cX1_readTape 12 = .ok (.aload_n 0, 1) := by decide +kernel
theorem dX1_readTape_13 : decode cX1_readTape 13 = .ok (.iconst 0, 1) := by decide +kernel
theorem dX1_readTape_14 : decode cX1_readTape 14 = .ok (.putfield 29, 3) := by decide +kernel
theorem dX1_readTape_17 : decode cX1_readTape 17 = .ok (.aload_n 0, 1) := by decide +kernel
theorem dX1_readTape_18 : decode cX1_readTape 18 = .ok (.iconst 0, 1) := by decide +kernel
theorem dX1_readTape_19 : decode cX1_readTape 19 = .ok (.putfield 32, 3) := by decide +kernel
theorem dX1_readTape_22 : decode cX1_readTape 22 = .ok (.aload_n 0, 1) := by decide +kernel
theorem dX1_readTape_23 : decode cX1_readTape 23 = .ok (.iconst 0, 1) := by decide +kernel
theorem dX1_readTape_24 : decode cX1_readTape 24 = .ok (.putfield 35, 3) := by decide +kernel
theorem dX1_readTape_27 : decode cX1_readTape 27 = .ok (.aload_n 0, 1) := by decide +kernel
theorem dX1_readTape_28 : decode cX1_readTape 28 = .ok (.iconst 0, 1) := by decide +kernel
theorem dX1_readTape_29 : decode cX1_readTape 29 = .ok (.putfield 38, 3) := by decide +kernel
theorem dX1_readTape_32 : decode cX1_readTape 32 = .ok (.aload_n 0, 1) := by decide +kernel
theorem dX1_readTape_33 : decode cX1_readTape 33 = .ok (.iconst 0, 1) := by decide +kernel
theorem dX1_readTape_34 : decode cX1_readTape 34 = .ok (.putfield 41, 3) := by decide +kernel
theorem dX1_readTape_37 : decode cX1_readTape 37 = .ok (.aload_n 0, 1) := by decide +kernel
theorem dX1_readTape_38 : decode cX1_readTape 38 = .ok (.iconst 0, 1) := by decide +kernel
theorem dX1_readTape_39 : decode cX1_readTape 39 = .ok (.putfield 44, 3) := by decide +kernel
theorem dX1_readTape_42 : decode cX1_readTape 42 = .ok (.aload_n 0, 1) := by decide +kernel
theorem dX1_readTape_43 : decode cX1_readTape 43 = .ok (.invokevirtual 47, 3) := by decide +kernel
theorem dX1_readTape_46 : decode cX1_readTape 46 = .ok (.iconst 0, 1) := by decide +kernel
theorem dX1_readTape_47 : decode cX1_readTape 47 = .ok (.istore_n 1, 1) := by decide +kernel
theorem dX1_readTape_48 : decode cX1_readTape 48 = .ok (.iload_n 1, 1) := by decide +kernel
theorem dX1_readTape_49 : decode cX1_readTape 49 = .ok (.sipush 160, 3) := by decide +kernel
theorem dX1_readTape_52 : decode cX1_readTape 52 = .ok (.if_icmp .gt 37, 3) := by decide +kernel
theorem dX1_readTape_55 : decode cX1_readTape 55 = .ok (.aload_n 0, 1) := by decide +kernel
theorem dX1_readTape_56 : decode cX1_readTape 56 = .ok (.getfield 29, 3) := by decide +kernel
theorem dX1_readTape_59 : decode cX1_readTape 59 = .ok (.ifCond .ne 30, 3) := by decide +kernel
theorem dX1_readTape_62 : decode cX1_readTape 62 = .ok (.aload_n 0, 1) := by decide +kernel
theorem dX1_readTape_63 : decode cX1_readTape 63 = .ok (.getfield 50, 3) := by decide +kernel
theorem dX1_readTape_66 : decode cX1_readTape 66 = .ok (.ifCond .eq 23, 3) := by decide +kernel
theorem dX1_readTape_69 : decode cX1_readTape 69 = .ok (.aload_n 0, 1) := by decide +kernel
theorem dX1_readTape_70 : decode cX1_readTape 70 = .ok (.invokevirtual 53, 3) := by decide +kernel
theorem dX1_readTape_73 : decode cX1_readTape 73 = .ok (.aload_n 0, 1) := by decide +kernel
theorem dX1_readTape_74 : decode cX1_readTape 74 = .ok (.dup, 1) := by decide +kernel
theorem dX1_readTape_75 : decode cX1_readTape 75 = .ok (.getfield 25, 3) := by decide +kernel
theorem dX1_readTape_78 : decode cX1_readTape 78 = .ok (.iconst 1, 1) := by decide +kernel
theorem dX1_readTape_79 : decode cX1_readTape 79 = .ok (.iadd, 1) := by decide +kernel
theorem dX1_readTape_80 : decode cX1_readTape 80 = .ok (.putfield 25, 3) := by decide +kernel
theorem dX1_readTape_83 : decode cX1_readTape 83 = .ok (.iinc 1 1, 3) := by decide +kernel
theorem dX1_readTape_86 : decode cX1_readTape 86 = .ok (.goto (-38), 3) := by decide +kernel
theorem dX1_readTape_89 : decode cX1_readTape 89 = .ok (.aload_n 0, 1) := by decide +kernel
theorem dX1_readTape_90 : decode cX1_readTape 90 = .ok (.getfield 29, 3) := by decide +kernel
theorem dX1_readTape_93 : decode cX1_readTape 93 = .ok (.ifCond .ne 7, 3) := by decide +kernel
theorem dX1_readTape_96 : decode cX1_readTape 96 = .ok (.aload_n 0, 1) := by decide +kernel
theorem dX1_readTape_97 : decode cX1_readTape 97 = .ok (.invokevirtual 56, 3) := by decide +kernel
theorem dX1_readTape_100 : decode cX1_readTape 100 = .ok (.aload_n 0, 1) := by decide +kernel
theorem dX1_readTape_101 : decode cX1_readTape 101 = .ok (.aload_n 0, 1) := by decide +kernel
theorem dX1_readTape_102 : decode cX1_readTape 102 = .ok (.getfield 12, 3) := by decide +kernel
theorem dX1_readTape_105 : decode cX1_readTape 105 = .ok (.getfield 59, 3) := by decide +kernel
theorem dX1_readTape_108 : decode cX1_readTape 108 = .ok (.aload_n 0, 1) := by decide +kernel
theorem dX1_readTape_109 : decode cX1_readTape 109 = .ok (.getfield 41, 3) := by decide +kernel
theorem dX1_readTape_112 : decode cX1_readTape 112 = .ok (.invokevirtual 63, 3) := by decide +kernel
theorem dX1_readTape_115 : decode cX1_readTape 115 = .ok (.aload_n 0, 1) := by decide +kernel
theorem dX1_readTape_116 : decode cX1_readTape 116 = .ok (.aload_n 0, 1) := by decide +kernel
theorem dX1_readTape_117 : decode cX1_readTape 117 = .ok (.getfield 12, 3) := by decide +kernel
theorem dX1_readTape_120 : decode cX1_readTape 120 = .ok (.getfield 67, 3) := by decide +kernel
theorem dX1_readTape_123 : decode cX1_readTape 123 = .ok (.aload_n 0, 1) := by decide +kernel
theorem dX1_readTape_124 : decode cX1_readTape 124 = .ok (.getfield 44, 3) := by decide +kernel
theorem dX1_readTape_127 : decode cX1_readTape 127 = .ok (.invokevirtual 63, 3) := by decide +kernel
theorem dX1_readTape_130 : decode cX1_readTape 130 = .ok (.return_, 1) := by decide +kernel
theorem dX1_fail_0 : decode cX1_fail 0 = .ok (.aload_n 0, 1) := by decide +kernel
theorem dX1_fail_1 : decode cX1_fail 1 = .ok (.getfield 29, 3) := by decide +kernel
theorem dX1_fail_4 : decode cX1_fail 4 = .ok (.ifCond .ne 13, 3) := by decide +kernel
theorem dX1_fail_7 : decode cX1_fail 7 = .ok (.aload_n 0, 1) := by decide +kernel
theorem dX1_fail_8 : decode cX1_fail 8 = .ok (.iload_n 1, 1) := by decide +kernel
theorem dX1_fail_9 : decode cX1_fail 9 = .ok (.putfield 29, 3) := by decide +kernel
theorem dX1_fail_12 : decode cX1_fail 12 = .ok (.aload_n 0, 1) := by decide +kernel
theorem dX1_fail_13 : decode cX1_fail 13 = .ok (.iload_n 2, 1) := by decide +kernel
theorem dX1_fail_14 : decode cX1_fail 14 = .ok (.putfield 32, 3) := by decide +kernel
theorem dX1_fail_17 : decode cX1_fail 17 = .ok (.return_, 1) := by decide +kernel
theorem dX1_readToken_0 : decode cX1_readToken 0 = .ok (.aload_n 0, 1) := by decide +kernel
theorem dX1_readToken_1 : decode cX1_readToken 1 = .ok (.getfield 35, 3) := by decide +kernel
theorem dX1_readToken_4 : decode cX1_readToken 4 = .ok (.aload_n 0, 1) := by decide +kernel
theorem dX1_readToken_5 : decode cX1_readToken 5 = .ok (.getfield 18, 3) := by decide +kernel
theorem dX1_readToken_8 : decode cX1_readToken 8 = .ok (.getfield 70, 3) := by decide +kernel
theorem dX1_readToken_11 : decode cX1_readToken 11 = .ok (.if_icmp .ge 33, 3) := by decide +kernel
theorem dX1_readToken_14 : decode cX1_readToken 14 = .ok (.aload_n 0, 1) := by decide +kernel
theorem dX1_readToken_15 : decode cX1_readToken 15 = .ok (.getfield 18, 3) := by decide +kernel
theorem dX1_readToken_18 : decode cX1_readToken 18 = .ok (.getfield 75, 3) := by decide +kernel
theorem dX1_readToken_21 : decode cX1_readToken 21 = .ok (.aload_n 0, 1) := by decide +kernel
theorem dX1_readToken_22 : decode cX1_readToken 22 = .ok (.getfield 35, 3) := by decide +kernel
theorem dX1_readToken_25 : decode cX1_readToken 25 = .ok (.baload, 1) := by decide +kernel
theorem dX1_readToken_26 : decode cX1_readToken 26 = .ok (.bipush 32, 2) := by decide +kernel
theorem dX1_readToken_28 : decode cX1_readToken 28 = .ok (.if_icmp .ne 16, 3) := by decide +kernel
theorem dX1_readToken_31 : decode cX1_readToken 31 = .ok (.aload_n 0, 1) := by decide +kernel
theorem dX1_readToken_32 : decode cX1_readToken 32 = .ok (.dup, 1) := by decide +kernel
theorem dX1_readToken_33 : decode cX1_readToken 33 = .ok (.getfield 35, 3) := by decide +kernel
theorem dX1_readToken_36 : decode cX1_readToken 36 = .ok (.iconst 1, 1) := by decide +kernel
theorem dX1_readToken_37 : decode cX1_readToken 37 = .ok (.iadd, 1) := by decide +kernel
theorem dX1_readToken_38 : decode cX1_readToken 38 = .ok (.putfield 35, 3) := by decide +kernel
theorem dX1_readToken_41 : decode cX1_readToken 41 = .ok (.goto (-41), 3) := by decide +kernel
theorem dX1_readToken_44 : decode cX1_readToken 44 = .ok (.aload_n 0, 1) := by decide +kernel
theorem dX1_readToken_45 : decode cX1_readToken 45 = .ok (.aload_n 0, 1) := by decide +kernel
theorem dX1_readToken_46 : decode cX1_readToken 46 = .ok (.getfield 35, 3) := by decide +kernel
theorem dX1_readToken_49 : decode cX1_readToken 49 = .ok (.putfield 79, 3) := by decide +kernel
theorem dX1_readToken_52 : decode cX1_readToken 52 = .ok (.aload_n 0, 1) := by decide +kernel
theorem dX1_readToken_53 : decode cX1_readToken 53 = .ok (.getfield 35, 3) := by decide +kernel
theorem dX1_readToken_56 : decode cX1_readToken 56 = .ok (.aload_n 0, 1) := by decide +kernel
theorem dX1_readToken_57 : decode cX1_readToken 57 = .ok (.getfield 18, 3) := by decide +kernel
theorem dX1_readToken_60 : decode cX1_readToken 60 = .ok (.getfield 70, 3) := by decide +kernel
theorem dX1_readToken_63 : decode cX1_readToken 63 = .ok (.if_icmp .lt 11, 3) := by decide +kernel
theorem dX1_readToken_66 : decode cX1_readToken 66 = .ok (.aload_n 0, 1) := by decide +kernel
theorem dX1_readToken_67 : decode cX1_readToken 67 = .ok (.iconst 0, 1) := by decide +kernel
theorem dX1_readToken_68 : decode cX1_readToken 68 = .ok (.putfield 50, 3) := by decide +kernel
theorem dX1_readToken_71 : decode cX1_readToken 71 = .ok (.goto 240, 3) := by decide +kernel
theorem dX1_readToken_74 : decode cX1_readToken 74 = .ok (.aload_n 0, 1) := by decide +kernel
theorem dX1_readToken_75 : decode cX1_readToken 75 = .ok (.getfield 18, 3) := by decide +kernel
theorem dX1_readToken_78 : decode cX1_readToken 78 = .ok (.getfield 75, 3) := by decide +kernel
theorem dX1_readToken_81 : decode cX1_readToken 81 = .ok (.aload_n 0, 1) := by decide +kernel
theorem dX1_readToken_82 : decode cX1_readToken 82 = .ok (.getfield 35, 3) := by decide +kernel
theorem dX1_readToken_85 : decode cX1_readToken 85 = .ok (.baload, 1) := by decide +kernel
theorem dX1_readToken_86 : decode cX1_readToken 86 = .ok (.bipush 59, 2) := by decide +kernel
theorem dX1_readToken_88 : decode cX1_readToken 88 = .ok (.if_icmp .ne 21, 3) := by decide +kernel
theorem dX1_readToken_91 : decode cX1_readToken 91 = .ok (.aload_n 0, 1) := by decide +kernel
theorem dX1_readToken_92 : decode cX1_readToken 92 = .ok (.iconst 3, 1) := by decide +kernel
theorem dX1_readToken_93 : decode cX1_readToken 93 = .ok (.putfield 50, 3) := by decide +kernel
theorem dX1_readToken_96 : decode cX1_readToken 96 = .ok (.aload_n 0, 1) := by decide +kernel
theorem dX1_readToken_97 : decode cX1_readToken 97 = .ok (.dup, 1) := by decide +kernel
theorem dX1_readToken_98 : decode cX1_readToken 98 = .ok (.getfield 35, 3) := by decide +kernel
theorem dX1_readToken_101 : decode cX1_readToken 101 = .ok (.iconst 1, 1) := by decide +kernel
theorem dX1_readToken_102 : decode cX1_readToken 102 = .ok (.iadd, 1) := by decide +kernel
theorem dX1_readToken_103 : decode cX1_readToken 103 = .ok (.putfield 35, 3) := by decide +kernel
theorem dX1_readToken_106 : decode cX1_readToken 106 = .ok (.goto 205, 3) := by decide +kernel
theorem dX1_readToken_109 : decode cX1_readToken 109 = .ok (.aload_n 0, 1) := by decide +kernel
theorem dX1_readToken_110 : decode cX1_readToken 110 = .ok (.getfield 18, 3) := by decide +kernel
theorem dX1_readToken_113 : decode cX1_readToken 113 = .ok (.getfield 75, 3) := by decide +kernel
theorem dX1_readToken_116 : decode cX1_readToken 116 = .ok (.aload_n 0, 1) := by decide +kernel
theorem dX1_readToken_117 : decode cX1_readToken 117 = .ok (.getfield 35, 3) := by decide +kernel
theorem dX1_readToken_120 : decode cX1_readToken 120 = .ok (.baload, 1) := by decide +kernel
theorem dX1_readToken_121 : decode cX1_readToken 121 = .ok (.invokestatic 82, 3) := by decide +kernel
theorem dX1_readToken_124 : decode cX1_readToken 124 = .ok (.ifCond .eq 53, 3) := by decide +kernel
theorem dX1_readToken_127 : decode cX1_readToken 127 = .ok (.aload_n 0, 1) := by decide +kernel
theorem dX1_readToken_128 : decode cX1_readToken 128 = .ok (.iconst 1, 1) := by decide +kernel
theorem dX1_readToken_129 : decode cX1_readToken 129 = .ok (.putfield 50, 3) := by decide +kernel
theorem dX1_readToken_132 : decode cX1_readToken 132 = .ok (.aload_n 0, 1) := by decide +kernel
theorem dX1_readToken_133 : decode cX1_readToken 133 = .ok (.getfield 35, 3) := by decide +kernel
theorem dX1_readToken_136 : decode cX1_readToken 136 = .ok (.aload_n 0, 1) := by decide +kernel
theorem dX1_readToken_137 : decode cX1_readToken 137 = .ok (.getfield 18, 3) := by decide +kernel
theorem dX1_readToken_140 : decode cX1_readToken 140 = .ok (.getfield 70, 3) := by decide +kernel
theorem dX1_readToken_143 : decode cX1_readToken 143 = .ok (.if_icmp .ge 168, 3) := by decide +kernel
theorem dX1_readToken_146 : decode cX1_readToken 146 = .ok (.aload_n 0, 1) := by decide +kernel
theorem dX1_readToken_147 : decode cX1_readToken 147 = .ok (.getfield 18, 3) := by decide +kernel
theorem dX1_readToken_150 : decode cX1_readToken 150 = .ok (.getfield 75, 3) := by decide +kernel
theorem dX1_readToken_153 : decode cX1_readToken 153 = .ok (.aload_n 0, 1) := by decide +kernel
theorem dX1_readToken_154 : decode cX1_readToken 154 = .ok (.getfield 35, 3) := by decide +kernel
theorem dX1_readToken_157 : decode cX1_readToken 157 = .ok (.baload, 1) := by decide +kernel
theorem dX1_readToken_158 : decode cX1_readToken 158 = .ok (.invokestatic 82, 3) := by decide +kernel
theorem dX1_readToken_161 : decode cX1_readToken 161 = .ok (.ifCond .eq 150, 3) := by decide +kernel
theorem dX1_readToken_164 : decode cX1_readToken 164 = .ok (.aload_n 0, 1) := by decide +kernel
theorem dX1_readToken_165 : decode cX1_readToken 165 = .ok (.dup, 1) := by decide +kernel
theorem dX1_readToken_166 : decode cX1_readToken 166 = .ok (.getfield 35, 3) := by decide +kernel
theorem dX1_readToken_169 : decode cX1_readToken 169 = .ok (.iconst 1, 1) := by decide +kernel
theorem dX1_readToken_170 : decode cX1_readToken 170 = .ok (.iadd, 1) := by decide +kernel
theorem dX1_readToken_171 : decode cX1_readToken 171 = .ok (.putfield 35, 3) := by decide +kernel
theorem dX1_readToken_174 : decode cX1_readToken 174 = .ok (.goto (-42), 3) := by decide +kernel
theorem dX1_readToken_177 : decode cX1_readToken 177 = .ok (.aload_n 0, 1) := by decide +kernel
theorem dX1_readToken_178 : decode cX1_readToken 178 = .ok (.getfield 18, 3) := by decide +kernel
theorem dX1_readToken_181 : decode cX1_readToken 181 = .ok (.getfield 75, 3) := by decide +kernel
theorem dX1_readToken_184 : decode cX1_readToken 184 = .ok (.aload_n 0, 1) := by decide +kernel
theorem dX1_readToken_185 : decode cX1_readToken 185 = .ok (.getfield 35, 3) := by decide +kernel
theorem dX1_readToken_188 : decode cX1_readToken 188 = .ok (.baload, 1) := by decide +kernel
theorem dX1_readToken_189 : decode cX1_readToken 189 = .ok (.invokestatic 86, 3) := by decide +kernel
theorem dX1_readToken_192 : decode cX1_readToken 192 = .ok (.ifCond .eq 110, 3) := by decide +kernel
theorem dX1_readToken_195 : decode cX1_readToken 195 = .ok (.aload_n 0, 1) := by decide +kernel
theorem dX1_readToken_196 : decode cX1_readToken 196 = .ok (.iconst 2, 1) := by decide +kernel
theorem dX1_readToken_197 : decode cX1_readToken 197 = .ok (.putfield 50, 3) := by decide +kernel
theorem dX1_readToken_200 : decode cX1_readToken 200 = .ok (.aload_n 0, 1) := by decide +kernel
theorem dX1_readToken_201 : decode cX1_readToken 201 = .ok (.iconst 0, 1) := by decide +kernel
theorem dX1_readToken_202 : decode cX1_readToken 202 = .ok (.putfield 89, 3) := by decide +kernel
theorem dX1_readToken_205 : decode cX1_readToken 205 = .ok (.aload_n 0, 1) := by decide +kernel
theorem dX1_readToken_206 : decode cX1_readToken 206 = .ok (.getfield 35, 3) := by decide +kernel
theorem dX1_readToken_209 : decode cX1_readToken 209 = .ok (.aload_n 0, 1) := by decide +kernel
theorem dX1_readToken_210 : decode cX1_readToken 210 = .ok (.getfield 18, 3) := by decide +kernel
theorem dX1_readToken_213 : decode cX1_readToken 213 = .ok (.getfield 70, 3) := by decide +kernel
theorem dX1_readToken_216 : decode cX1_readToken 216 = .ok (.if_icmp .ge 61, 3) := by decide +kernel
theorem dX1_readToken_219 : decode cX1_readToken 219 = .ok (.aload_n 0, 1) := by decide +kernel
theorem dX1_readToken_220 : decode cX1_readToken 220 = .ok (.getfield 18, 3) := by decide +kernel
theorem dX1_readToken_223 : decode cX1_readToken 223 = .ok (.getfield 75, 3) := by decide +kernel
theorem dX1_readToken_226 : decode cX1_readToken 226 = .ok (.aload_n 0, 1) := by decide +kernel
theorem dX1_readToken_227 : decode cX1_readToken 227 = .ok (.getfield 35, 3) := by decide +kernel
theorem dX1_readToken_230 : decode cX1_readToken 230 = .ok (.baload, 1) := by decide +kernel
theorem dX1_readToken_231 : decode cX1_readToken 231 = .ok (.invokestatic 86, 3) := by decide +kernel
theorem dX1_readToken_234 : decode cX1_readToken 234 = .ok (.ifCond .eq 43, 3) := by decide +kernel
theorem dX1_readToken_237 : decode cX1_readToken 237 = .ok (.aload_n 0, 1) := by decide +kernel
theorem dX1_readToken_238 : decode cX1_readToken 238 = .ok (.aload_n 0, 1) := by decide +kernel
theorem dX1_readToken_239 : decode cX1_readToken 239 = .ok (.getfield 89, 3) := by decide +kernel
theorem dX1_readToken_242 : decode cX1_readToken 242 = .ok (.bipush 10, 2) := by decide +kernel
theorem dX1_readToken_244 : decode cX1_readToken 244 = .ok (.imul, 1) := by decide +kernel
theorem dX1_readToken_245 : decode cX1_readToken 245 = .ok (.aload_n 0, 1) := by decide +kernel
theorem dX1_readToken_246 : decode cX1_readToken 246 = .ok (.getfield 18, 3) := by decide +kernel
theorem dX1_readToken_249 : decode cX1_readToken 249 = .ok (.getfield 75, 3) := by decide +kernel
theorem dX1_readToken_252 : decode cX1_readToken 252 = .ok (.aload_n 0, 1) := by decide +kernel
theorem dX1_readToken_253 : decode cX1_readToken 253 = .ok (.getfield 35, 3) := by decide +kernel
theorem dX1_readToken_256 : decode cX1_readToken 256 = .ok (.baload, 1) := by decide +kernel
theorem dX1_readToken_257 : decode cX1_readToken 257 = .ok (.bipush 48, 2) := by decide +kernel
theorem dX1_readToken_259 : decode cX1_readToken 259 = .ok (.isub, 1) := by decide +kernel
theorem dX1_readToken_260 : decode cX1_readToken 260 = .ok (.iadd, 1) := by decide +kernel
theorem dX1_readToken_261 : decode cX1_readToken 261 = .ok (.putfield 89, 3) := by decide +kernel
theorem dX1_readToken_264 : decode cX1_readToken 264 = .ok (.aload_n 0, 1) := by decide +kernel
theorem dX1_readToken_265 : decode cX1_readToken 265 = .ok (.dup, 1) := by decide +kernel
theorem dX1_readToken_266 : decode cX1_readToken 266 = .ok (.getfield 35, 3) := by decide +kernel
theorem dX1_readToken_269 : decode cX1_readToken 269 = .ok (.iconst 1, 1) := by decide +kernel
theorem dX1_readToken_270 : decode cX1_readToken 270 = .ok (.iadd, 1) := by decide +kernel
theorem dX1_readToken_271 : decode cX1_readToken 271 = .ok (.putfield 35, 3) := by decide +kernel
theorem dX1_readToken_274 : decode cX1_readToken 274 = .ok (.goto (-69), 3) := by decide +kernel
theorem dX1_readToken_277 : decode cX1_readToken 277 = .ok (.aload_n 0, 1) := by decide +kernel
theorem dX1_readToken_278 : decode cX1_readToken 278 = .ok (.getfield 35, 3) := by decide +kernel
theorem dX1_readToken_281 : decode cX1_readToken 281 = .ok (.aload_n 0, 1) := by decide +kernel
theorem dX1_readToken_282 : decode cX1_readToken 282 = .ok (.getfield 79, 3) := by decide +kernel
theorem dX1_readToken_285 : decode cX1_readToken 285 = .ok (.isub, 1) := by decide +kernel
theorem dX1_readToken_286 : decode cX1_readToken 286 = .ok (.iconst 2, 1) := by decide +kernel
theorem dX1_readToken_287 : decode cX1_readToken 287 = .ok (.if_icmp .le 24, 3) := by decide +kernel
theorem dX1_readToken_290 : decode cX1_readToken 290 = .ok (.aload_n 0, 1) := by decide +kernel
theorem dX1_readToken_291 : decode cX1_readToken 291 = .ok (.iconst 1, 1) := by decide +kernel
theorem dX1_readToken_292 : decode cX1_readToken 292 = .ok (.aload_n 0, 1) := by decide +kernel
theorem dX1_readToken_293 : decode cX1_readToken 293 = .ok (.getfield 79, 3) := by decide +kernel
theorem dX1_readToken_296 : decode cX1_readToken 296 = .ok (.invokevirtual 92, 3) := by decide +kernel
theorem dX1_readToken_299 : decode cX1_readToken 299 = .ok (.goto 12, 3) := by decide +kernel
theorem dX1_readToken_302 : decode cX1_readToken 302 = .ok (.aload_n 0, 1) := by decide +kernel
theorem dX1_readToken_303 : decode cX1_readToken 303 = .ok (.iconst 1, 1) := by decide +kernel
theorem dX1_readToken_304 : decode cX1_readToken 304 = .ok (.aload_n 0, 1) := by decide +kernel
theorem dX1_readToken_305 : decode cX1_readToken 305 = .ok (.getfield 79, 3) := by decide +kernel
theorem dX1_readToken_308 : decode cX1_readToken 308 = .ok (.invokevirtual 92, 3) := by decide +kernel
theorem dX1_readToken_311 : decode cX1_readToken 311 = .ok (.return_, 1) := by decide +kernel
theorem dX1_isLetter_0 : decode cX1_isLetter 0 = .ok (.iload_n 0, 1) := by decide +kernel
theorem dX1_isLetter_1 : decode cX1_isLetter 1 = .ok (.bipush 97, 2) := by decide +kernel
theorem dX1_isLetter_3 : decode cX1_isLetter 3 = .ok (.if_icmp .lt 13, 3) := by decide +kernel
theorem dX1_isLetter_6 : decode cX1_isLetter 6 = .ok (.iload_n 0, 1) := by decide +kernel
theorem dX1_isLetter_7 : decode cX1_isLetter 7 = .ok (.bipush 122, 2) := by decide +kernel
theorem dX1_isLetter_9 : decode cX1_isLetter 9 = .ok (.if_icmp .gt 7, 3) := by decide +kernel
theorem dX1_isLetter_12 : decode cX1_isLetter 12 = .ok (.iconst 1, 1) := by decide +kernel
theorem dX1_isLetter_13 : decode cX1_isLetter 13 = .ok (.goto 4, 3) := by decide +kernel
theorem dX1_isLetter_16 : decode cX1_isLetter 16 = .ok (.iconst 0, 1) := by decide +kernel
theorem dX1_isLetter_17 : decode cX1_isLetter 17 = .ok (.ireturn, 1) := by decide +kernel
theorem dX1_isFigure_0 : decode cX1_isFigure 0 = .ok (.iload_n 0, 1) := by decide +kernel
theorem dX1_isFigure_1 : decode cX1_isFigure 1 = .ok (.bipush 48, 2) := by decide +kernel
theorem dX1_isFigure_3 : decode cX1_isFigure 3 = .ok (.if_icmp .lt 13, 3) := by decide +kernel
theorem dX1_isFigure_6 : decode cX1_isFigure 6 = .ok (.iload_n 0, 1) := by decide +kernel
theorem dX1_isFigure_7 : decode cX1_isFigure 7 = .ok (.bipush 57, 2) := by decide +kernel
theorem dX1_isFigure_9 : decode cX1_isFigure 9 = .ok (.if_icmp .gt 7, 3) := by decide +kernel
theorem dX1_isFigure_12 : decode cX1_isFigure 12 = .ok (.iconst 1, 1) := by decide +kernel
theorem dX1_isFigure_13 : decode cX1_isFigure 13 = .ok (.goto 4, 3) := by decide +kernel
theorem dX1_isFigure_16 : decode cX1_isFigure 16 = .ok (.iconst 0, 1) := by decide +kernel
theorem dX1_isFigure_17 : decode cX1_isFigure 17 = .ok (.ireturn, 1) := by decide +kernel
theorem dX1_isNamed_0 : decode cX1_isNamed 0 = .ok (.aload_n 0, 1) := by decide +kernel
theorem dX1_isNamed_1 : decode cX1_isNamed 1 = .ok (.getfield 50, 3) := by decide +kernel
theorem dX1_isNamed_4 : decode cX1_isNamed 4 = .ok (.iconst 1, 1) := by decide +kernel
theorem dX1_isNamed_5 : decode cX1_isNamed 5 = .ok (.if_icmp .ne 23, 3) := by decide +kernel
theorem dX1_isNamed_8 : decode cX1_isNamed 8 = .ok (.aload_n 0, 1) := by decide +kernel
theorem dX1_isNamed_9 : decode cX1_isNamed 9 = .ok (.getfield 35, 3) := by decide +kernel
theorem dX1_isNamed_12 : decode cX1_isNamed 12 = .ok (.aload_n 0, 1) := by decide +kernel
theorem dX1_isNamed_13 : decode cX1_isNamed 13 = .ok (.getfield 79, 3) := by decide +kernel
theorem dX1_isNamed_16 : decode cX1_isNamed 16 = .ok (.isub, 1) := by decide +kernel
theorem dX1_isNamed_17 : decode cX1_isNamed 17 = .ok (.aload_n 1, 1) := by decide +kernel
theorem dX1_isNamed_18 : decode cX1_isNamed 18 = .ok (.invokevirtual 96, 3) := by decide +kernel
theorem dX1_isNamed_21 : decode cX1_isNamed 21 = .ok (.if_icmp .ne 7, 3) := by decide +kernel
theorem dX1_isNamed_24 : decode cX1_isNamed 24 = .ok (.iconst 1, 1) := by decide +kernel
theorem dX1_isNamed_25 : decode cX1_isNamed 25 = .ok (.goto 4, 3) := by decide +kernel
theorem dX1_isNamed_28 : decode cX1_isNamed 28 = .ok (.iconst 0, 1) := by decide +kernel
theorem dX1_isNamed_29 : decode cX1_isNamed 29 = .ok (.istore_n 2, 1) := by decide +kernel
theorem dX1_isNamed_30 : decode cX1_isNamed 30 = .ok (.iconst 0, 1) := by decide +kernel
theorem dX1_isNamed_31 : decode cX1_isNamed 31 = .ok (.istore_n 3, 1) := by decide +kernel
theorem dX1_isNamed_32 : decode cX1_isNamed 32 = .ok (.iload_n 2, 1) := by decide +kernel
theorem dX1_isNamed_33 : decode cX1_isNamed 33 = .ok (.ifCond .eq 45, 3) := by decide +kernel
theorem dX1_isNamed_36 : decode cX1_isNamed 36 = .ok (.iload_n 3, 1) := by decide +kernel
theorem dX1_isNamed_37 : decode cX1_isNamed 37 = .ok (.aload_n 1, 1) := by decide +kernel
theorem dX1_isNamed_38 : decode cX1_isNamed 38 = .ok (.invokevirtual 96, 3) := by decide +kernel
theorem dX1_isNamed_41 : decode cX1_isNamed 41 = .ok (.if_icmp .ge 37, 3) := by decide +kernel
theorem dX1_isNamed_44 : decode cX1_isNamed 44 = .ok (.aload_n 0, 1) := by decide +kernel
theorem dX1_isNamed_45 : decode cX1_isNamed 45 = .ok (.getfield 18, 3) := by decide +kernel
theorem dX1_isNamed_48 : decode cX1_isNamed 48 = .ok (.getfield 75, 3) := by decide +kernel
theorem dX1_isNamed_51 : decode cX1_isNamed 51 = .ok (.aload_n 0, 1) := by decide +kernel
theorem dX1_isNamed_52 : decode cX1_isNamed 52 = .ok (.getfield 79, 3) := by decide +kernel
theorem dX1_isNamed_55 : decode cX1_isNamed 55 = .ok (.iload_n 3, 1) := by decide +kernel
theorem dX1_isNamed_56 : decode cX1_isNamed 56 = .ok (.iadd, 1) := by decide +kernel
theorem dX1_isNamed_57 : decode cX1_isNamed 57 = .ok (.baload, 1) := by decide +kernel
theorem dX1_isNamed_58 : decode cX1_isNamed 58 = .ok (.aload_n 1, 1) := by decide +kernel
theorem dX1_isNamed_59 : decode cX1_isNamed 59 = .ok (.iload_n 3, 1) := by decide +kernel
theorem dX1_isNamed_60 : decode cX1_isNamed 60 = .ok (.invokevirtual 101, 3) := by decide +kernel
theorem dX1_isNamed_63 : decode cX1_isNamed 63 = .ok (.if_icmp .ne 7, 3) := by decide +kernel
theorem dX1_isNamed_66 : decode cX1_isNamed 66 = .ok (.iconst 1, 1) := by decide +kernel
theorem dX1_isNamed_67 : decode cX1_isNamed 67 = .ok (.goto 4, 3) := by decide +kernel
theorem dX1_isNamed_70 : decode cX1_isNamed 70 = .ok (.iconst 0, 1) := by decide +kernel
theorem dX1_isNamed_71 : decode cX1_isNamed 71 = .ok (.istore_n 2, 1) := by decide +kernel
theorem dX1_isNamed_72 : decode cX1_isNamed 72 = .ok (.iinc 3 1, 3) := by decide +kernel
theorem dX1_isNamed_75 : decode cX1_isNamed 75 = .ok (.goto (-43), 3) := by decide +kernel
theorem dX1_isNamed_78 : decode cX1_isNamed 78 = .ok (.iload_n 2, 1) := by decide +kernel
theorem dX1_isNamed_79 : decode cX1_isNamed 79 = .ok (.ireturn, 1) := by decide +kernel
theorem dX1_readLine_0 : decode cX1_readLine 0 = .ok (.aload_n 0, 1) := by decide +kernel
theorem dX1_readLine_1 : decode cX1_readLine 1 = .ok (.ldc 105, 2) := by decide +kernel
theorem dX1_readLine_3 : decode cX1_readLine 3 = .ok (.invokevirtual 107, 3) := by decide +kernel
theorem dX1_readLine_6 : decode cX1_readLine 6 = .ok (.ifCond .eq 11, 3) := by decide +kernel
theorem dX1_readLine_9 : decode cX1_readLine 9 = .ok (.aload_n 0, 1) := by decide +kernel
theorem dX1_readLine_10 : decode cX1_readLine 10 = .ok (.iconst 0, 1) := by decide +kernel
theorem dX1_readLine_11 : decode cX1_readLine 11 = .ok (.invokevirtual 111, 3) := by decide +kernel
theorem dX1_readLine_14 : decode cX1_readLine 14 = .ok (.goto 189, 3) := by decide +kernel
theorem dX1_readLine_17 : decode cX1_readLine 17 = .ok (.aload_n 0, 1) := by decide +kernel
theorem dX1_readLine_18 : decode cX1_readLine 18 = .ok (.ldc 115, 2) := by decide +kernel
theorem dX1_readLine_20 : decode cX1_readLine 20 = .ok (.invokevirtual 107, 3) := by decide +kernel
theorem dX1_readLine_23 : decode cX1_readLine 23 = .ok (.ifCond .eq 11, 3) := by decide +kernel
theorem dX1_readLine_26 : decode cX1_readLine 26 = .ok (.aload_n 0, 1) := by decide +kernel
theorem dX1_readLine_27 : decode cX1_readLine 27 = .ok (.iconst 1, 1) := by decide +kernel
theorem dX1_readLine_28 : decode cX1_readLine 28 = .ok (.invokevirtual 111, 3) := by decide +kernel
theorem dX1_readLine_31 : decode cX1_readLine 31 = .ok (.goto 172, 3) := by decide +kernel
theorem dX1_readLine_34 : decode cX1_readLine 34 = .ok (.aload_n 0, 1) := by decide +kernel
theorem dX1_readLine_35 : decode cX1_readLine 35 = .ok (.ldc 117, 2) := by decide +kernel
theorem dX1_readLine_37 : decode cX1_readLine 37 = .ok (.invokevirtual 107, 3) := by decide +kernel
theorem dX1_readLine_40 : decode cX1_readLine 40 = .ok (.ifCond .eq 11, 3) := by decide +kernel
theorem dX1_readLine_43 : decode cX1_readLine 43 = .ok (.aload_n 0, 1) := by decide +kernel
theorem dX1_readLine_44 : decode cX1_readLine 44 = .ok (.iconst 2, 1) := by decide +kernel
theorem dX1_readLine_45 : decode cX1_readLine 45 = .ok (.invokevirtual 111, 3) := by decide +kernel
theorem dX1_readLine_48 : decode cX1_readLine 48 = .ok (.goto 155, 3) := by decide +kernel
theorem dX1_readLine_51 : decode cX1_readLine 51 = .ok (.aload_n 0, 1) := by decide +kernel
theorem dX1_readLine_52 : decode cX1_readLine 52 = .ok (.ldc 119, 2) := by decide +kernel
theorem dX1_readLine_54 : decode cX1_readLine 54 = .ok (.invokevirtual 107, 3) := by decide +kernel
theorem dX1_readLine_57 : decode cX1_readLine 57 = .ok (.ifCond .eq 10, 3) := by decide +kernel
theorem dX1_readLine_60 : decode cX1_readLine 60 = .ok (.aload_n 0, 1) := by decide +kernel
theorem dX1_readLine_61 : decode cX1_readLine 61 = .ok (.invokevirtual 121, 3) := by decide +kernel
theorem dX1_readLine_64 : decode cX1_readLine 64 = .ok (.goto 139, 3) := by decide +kernel
theorem dX1_readLine_67 : decode cX1_readLine 67 = .ok (.aload_n 0, 1) := by decide +kernel
theorem dX1_readLine_68 : decode cX1_readLine 68 = .ok (.ldc 124, 2) := by decide +kernel
theorem dX1_readLine_70 : decode cX1_readLine 70 = .ok (.invokevirtual 107, 3) := by decide +kernel
theorem dX1_readLine_73 : decode cX1_readLine 73 = .ok (.ifCond .eq 25, 3) := by decide +kernel
theorem dX1_readLine_76 : decode cX1_readLine 76 = .ok (.aload_n 0, 1) := by decide +kernel
theorem dX1_readLine_77 : decode cX1_readLine 77 = .ok (.iconst 1, 1) := by decide +kernel
theorem dX1_readLine_78 : decode cX1_readLine 78 = .ok (.invokevirtual 126, 3) := by decide +kernel
theorem dX1_readLine_81 : decode cX1_readLine 81 = .ok (.aload_n 0, 1) := by decide +kernel
theorem dX1_readLine_82 : decode cX1_readLine 82 = .ok (.getfield 12, 3) := by decide +kernel
theorem dX1_readLine_85 : decode cX1_readLine 85 = .ok (.aload_n 0, 1) := by decide +kernel
theorem dX1_readLine_86 : decode cX1_readLine 86 = .ok (.iconst 0, 1) := by decide +kernel
theorem dX1_readLine_87 : decode cX1_readLine 87 = .ok (.bipush 60, 2) := by decide +kernel
theorem dX1_readLine_89 : decode cX1_readLine 89 = .ok (.invokevirtual 129, 3) := by decide +kernel
theorem dX1_readLine_92 : decode cX1_readLine 92 = .ok (.putfield 133, 3) := by decide +kernel
theorem dX1_readLine_95 : decode cX1_readLine 95 = .ok (.goto 108, 3) := by decide +kernel
theorem dX1_readLine_98 : decode cX1_readLine 98 = .ok (.aload_n 0, 1) := by decide +kernel
theorem dX1_readLine_99 : decode cX1_readLine 99 = .ok (.ldc 135, 2) := by decide +kernel
theorem dX1_readLine_101 : decode cX1_readLine 101 = .ok (.invokevirtual 107, 3) := by decide +kernel
theorem dX1_readLine_104 : decode cX1_readLine 104 = .ok (.ifCond .eq 25, 3) := by decide +kernel
theorem dX1_readLine_107 : decode cX1_readLine 107 = .ok (.aload_n 0, 1) := by decide +kernel
theorem dX1_readLine_108 : decode cX1_readLine 108 = .ok (.iconst 2, 1) := by decide +kernel
theorem dX1_readLine_109 : decode cX1_readLine 109 = .ok (.invokevirtual 126, 3) := by decide +kernel
theorem dX1_readLine_112 : decode cX1_readLine 112 = .ok (.aload_n 0, 1) := by decide +kernel
theorem dX1_readLine_113 : decode cX1_readLine 113 = .ok (.getfield 12, 3) := by decide +kernel
theorem dX1_readLine_116 : decode cX1_readLine 116 = .ok (.aload_n 0, 1) := by decide +kernel
theorem dX1_readLine_117 : decode cX1_readLine 117 = .ok (.iconst 0, 1) := by decide +kernel
theorem dX1_readLine_118 : decode cX1_readLine 118 = .ok (.bipush 60, 2) := by decide +kernel
theorem dX1_readLine_120 : decode cX1_readLine 120 = .ok (.invokevirtual 129, 3) := by decide +kernel
theorem dX1_readLine_123 : decode cX1_readLine 123 = .ok (.putfield 137, 3) := by decide +kernel
theorem dX1_readLine_126 : decode cX1_readLine 126 = .ok (.goto 77, 3) := by decide +kernel
theorem dX1_readLine_129 : decode cX1_readLine 129 = .ok (.aload_n 0, 1) := by decide +kernel
theorem dX1_readLine_130 : decode cX1_readLine 130 = .ok (.ldc 139, 2) := by decide +kernel
theorem dX1_readLine_132 : decode cX1_readLine 132 = .ok (.invokevirtual 107, 3) := by decide +kernel
theorem dX1_readLine_135 : decode cX1_readLine 135 = .ok (.ifCond .eq 26, 3) := by decide +kernel
theorem dX1_readLine_138 : decode cX1_readLine 138 = .ok (.aload_n 0, 1) := by decide +kernel
theorem dX1_readLine_139 : decode cX1_readLine 139 = .ok (.iconst 4, 1) := by decide +kernel
theorem dX1_readLine_140 : decode cX1_readLine 140 = .ok (.invokevirtual 126, 3) := by decide +kernel
theorem dX1_readLine_143 : decode cX1_readLine 143 = .ok (.aload_n 0, 1) := by decide +kernel
theorem dX1_readLine_144 : decode cX1_readLine 144 = .ok (.aload_n 0, 1) := by decide +kernel
theorem dX1_readLine_145 : decode cX1_readLine 145 = .ok (.aload_n 0, 1) := by decide +kernel
theorem dX1_readLine_146 : decode cX1_readLine 146 = .ok (.getfield 12, 3) := by decide +kernel
theorem dX1_readLine_149 : decode cX1_readLine 149 = .ok (.getfield 59, 3) := by decide +kernel
theorem dX1_readLine_152 : decode cX1_readLine 152 = .ok (.invokevirtual 141, 3) := by decide +kernel
theorem dX1_readLine_155 : decode cX1_readLine 155 = .ok (.putfield 41, 3) := by decide +kernel
theorem dX1_readLine_158 : decode cX1_readLine 158 = .ok (.goto 45, 3) := by decide +kernel
theorem dX1_readLine_161 : decode cX1_readLine 161 = .ok (.aload_n 0, 1) := by decide +kernel
theorem dX1_readLine_162 : decode cX1_readLine 162 = .ok (.ldc 145, 2) := by decide +kernel
theorem dX1_readLine_164 : decode cX1_readLine 164 = .ok (.invokevirtual 107, 3) := by decide +kernel
theorem dX1_readLine_167 : decode cX1_readLine 167 = .ok (.ifCond .eq 27, 3) := by decide +kernel
theorem dX1_readLine_170 : decode cX1_readLine 170 = .ok (.aload_n 0, 1) := by decide +kernel
theorem dX1_readLine_171 : decode cX1_readLine 171 = .ok (.bipush 8, 2) := by decide +kernel
theorem dX1_readLine_173 : decode cX1_readLine 173 = .ok (.invokevirtual 126, 3) := by decide +kernel
theorem dX1_readLine_176 : decode cX1_readLine 176 = .ok (.aload_n 0, 1) := by decide +kernel
theorem dX1_readLine_177 : decode cX1_readLine 177 = .ok (.aload_n 0, 1) := by decide +kernel
theorem dX1_readLine_178 : decode cX1_readLine 178 = .ok (.aload_n 0, 1) := by decide +kernel
theorem dX1_readLine_179 : decode cX1_readLine 179 = .ok (.getfield 12, 3) := by decide +kernel
theorem dX1_readLine_182 : decode cX1_readLine 182 = .ok (.getfield 67, 3) := by decide +kernel
theorem dX1_readLine_185 : decode cX1_readLine 185 = .ok (.invokevirtual 141, 3) := by decide +kernel
theorem dX1_readLine_188 : decode cX1_readLine 188 = .ok (.putfield 44, 3) := by decide +kernel
theorem dX1_readLine_191 : decode cX1_readLine 191 = .ok (.goto 12, 3) := by decide +kernel
theorem dX1_readLine_194 : decode cX1_readLine 194 = .ok (.aload_n 0, 1) := by decide +kernel
theorem dX1_readLine_195 : decode cX1_readLine 195 = .ok (.iconst 2, 1) := by decide +kernel
theorem dX1_readLine_196 : decode cX1_readLine 196 = .ok (.aload_n 0, 1) := by decide +kernel
theorem dX1_readLine_197 : decode cX1_readLine 197 = .ok (.getfield 79, 3) := by decide +kernel
theorem dX1_readLine_200 : decode cX1_readLine 200 = .ok (.invokevirtual 92, 3) := by decide +kernel
theorem dX1_readLine_203 : decode cX1_readLine 203 = .ok (.aload_n 0, 1) := by decide +kernel
theorem dX1_readLine_204 : decode cX1_readLine 204 = .ok (.invokevirtual 146, 3) := by decide +kernel
theorem dX1_readLine_207 : decode cX1_readLine 207 = .ok (.return_, 1) := by decide +kernel
theorem dX1_takeOnce_0 : decode cX1_takeOnce 0 = .ok (.aload_n 0, 1) := by decide +kernel
theorem dX1_takeOnce_1 : decode cX1_takeOnce 1 = .ok (.getfield 38, 3) := by decide +kernel
theorem dX1_takeOnce_4 : decode cX1_takeOnce 4 = .ok (.iload_n 1, 1) := by decide +kernel
theorem dX1_takeOnce_5 : decode cX1_takeOnce 5 = .ok (.iand, 1) := by decide +kernel
theorem dX1_takeOnce_6 : decode cX1_takeOnce 6 = .ok (.ifCond .eq 13, 3) := by decide +kernel
theorem dX1_takeOnce_9 : decode cX1_takeOnce 9 = .ok (.aload_n 0, 1) := by decide +kernel
theorem dX1_takeOnce_10 : decode cX1_takeOnce 10 = .ok (.iconst 4, 1) := by decide +kernel
theorem dX1_takeOnce_11 : decode cX1_takeOnce 11 = .ok (.aload_n 0, 1) := by decide +kernel
theorem dX1_takeOnce_12 : decode cX1_takeOnce 12 = .ok (.getfield 79, 3) := by decide +kernel
theorem dX1_takeOnce_15 : decode cX1_takeOnce 15 = .ok (.invokevirtual 92, 3) := by decide +kernel
theorem dX1_takeOnce_18 : decode cX1_takeOnce 18 = .ok (.return_, 1) := by decide +kernel
theorem dX1_takeOnce_19 : decode cX1_takeOnce 19 = .ok (.aload_n 0, 1) := by decide +kernel
theorem dX1_takeOnce_20 : decode cX1_takeOnce 20 = .ok (.dup, 1) := by decide +kernel
theorem dX1_takeOnce_21 : decode cX1_takeOnce 21 = .ok (.getfield 38, 3) := by decide +kernel
theorem dX1_takeOnce_24 : decode cX1_takeOnce 24 = .ok (.iload_n 1, 1) := by decide +kernel
theorem dX1_takeOnce_25 : decode cX1_takeOnce 25 = .ok (.ior, 1) := by decide +kernel
theorem dX1_takeOnce_26 : decode cX1_takeOnce 26 = .ok (.putfield 38, 3) := by decide +kernel
theorem dX1_takeOnce_29 : decode cX1_takeOnce 29 = .ok (.aload_n 0, 1) := by decide +kernel
theorem dX1_takeOnce_30 : decode cX1_takeOnce 30 = .ok (.invokevirtual 47, 3) := by decide +kernel
theorem dX1_takeOnce_33 : decode cX1_takeOnce 33 = .ok (.return_, 1) := by decide +kernel
theorem dX1_readHouse_0 : decode cX1_readHouse 0 = .ok (.aload_n 0, 1) := by decide +kernel
theorem dX1_readHouse_1 : decode cX1_readHouse 1 = .ok (.getfield 12, 3) := by decide +kernel
theorem dX1_readHouse_4 : decode cX1_readHouse 4 = .ok (.getfield 149, 3) := by decide +kernel
theorem dX1_readHouse_7 : decode cX1_readHouse 7 = .ok (.bipush 6, 2) := by decide +kernel
theorem dX1_readHouse_9 : decode cX1_readHouse 9 = .ok (.if_icmp .lt 13, 3) := by decide +kernel
theorem dX1_readHouse_12 : decode cX1_readHouse 12 = .ok (.aload_n 0, 1) := by decide +kernel
theorem dX1_readHouse_13 : decode cX1_readHouse 13 = .ok (.iconst 5, 1) := by decide +kernel
theorem dX1_readHouse_14 : decode cX1_readHouse 14 = .ok (.aload_n 0, 1) := by decide +kernel
theorem dX1_readHouse_15 : decode cX1_readHouse 15 = .ok (.getfield 79, 3) := by decide +kernel
theorem dX1_readHouse_18 : decode cX1_readHouse 18 = .ok (.invokevirtual 92, 3) := by decide +kernel
theorem dX1_readHouse_21 : decode cX1_readHouse 21 = .ok (.return_, 1) := by decide +kernel
theorem dX1_readHouse_22 : decode cX1_readHouse 22 = .ok (.aload_n 0, 1) := by decide +kernel
theorem dX1_readHouse_23 : decode cX1_readHouse 23 = .ok (.invokevirtual 47, 3) := by decide +kernel
theorem dX1_readHouse_26 : decode cX1_readHouse 26 = .ok (.aload_n 0, 1) := by decide +kernel
theorem dX1_readHouse_27 : decode cX1_readHouse 27 = .ok (.getfield 12, 3) := by decide +kernel
theorem dX1_readHouse_30 : decode cX1_readHouse 30 = .ok (.getfield 149, 3) := by decide +kernel
theorem dX1_readHouse_33 : decode cX1_readHouse 33 = .ok (.iconst 2, 1) := by decide +kernel
theorem dX1_readHouse_34 : decode cX1_readHouse 34 = .ok (.imul, 1) := by decide +kernel
theorem dX1_readHouse_35 : decode cX1_readHouse 35 = .ok (.istore_n 2, 1) := by decide +kernel
theorem dX1_readHouse_36 : decode cX1_readHouse 36 = .ok (.aload_n 0, 1) := by decide +kernel
theorem dX1_readHouse_37 : decode cX1_readHouse 37 = .ok (.getfield 12, 3) := by decide +kernel
theorem dX1_readHouse_40 : decode cX1_readHouse 40 = .ok (.getfield 152, 3) := by decide +kernel
theorem dX1_readHouse_43 : decode cX1_readHouse 43 = .ok (.iload_n 2, 1) := by decide +kernel
theorem dX1_readHouse_44 : decode cX1_readHouse 44 = .ok (.iconst 0, 1) := by decide +kernel
theorem dX1_readHouse_45 : decode cX1_readHouse 45 = .ok (.iadd, 1) := by decide +kernel
theorem dX1_readHouse_46 : decode cX1_readHouse 46 = .ok (.aload_n 0, 1) := by decide +kernel
theorem dX1_readHouse_47 : decode cX1_readHouse 47 = .ok (.iconst 1, 1) := by decide +kernel
theorem dX1_readHouse_48 : decode cX1_readHouse 48 = .ok (.bipush 9, 2) := by decide +kernel
theorem dX1_readHouse_50 : decode cX1_readHouse 50 = .ok (.invokevirtual 129, 3) := by decide +kernel
theorem dX1_readHouse_53 : decode cX1_readHouse 53 = .ok (.iastore, 1) := by decide +kernel
theorem dX1_readHouse_54 : decode cX1_readHouse 54 = .ok (.aload_n 0, 1) := by decide +kernel
theorem dX1_readHouse_55 : decode cX1_readHouse 55 = .ok (.getfield 12, 3) := by decide +kernel
theorem dX1_readHouse_58 : decode cX1_readHouse 58 = .ok (.getfield 152, 3) := by decide +kernel
theorem dX1_readHouse_61 : decode cX1_readHouse 61 = .ok (.iload_n 2, 1) := by decide +kernel
theorem dX1_readHouse_62 : decode cX1_readHouse 62 = .ok (.iconst 1, 1) := by decide +kernel
theorem dX1_readHouse_63 : decode cX1_readHouse 63 = .ok (.iadd, 1) := by decide +kernel
theorem dX1_readHouse_64 : decode cX1_readHouse 64 = .ok (.iload_n 1, 1) := by decide +kernel
theorem dX1_readHouse_65 : decode cX1_readHouse 65 = .ok (.iastore, 1) := by decide +kernel
theorem dX1_readHouse_66 : decode cX1_readHouse 66 = .ok (.aload_n 0, 1) := by decide +kernel
theorem dX1_readHouse_67 : decode cX1_readHouse 67 = .ok (.getfield 12, 3) := by decide +kernel
theorem dX1_readHouse_70 : decode cX1_readHouse 70 = .ok (.dup, 1) := by decide +kernel
theorem dX1_readHouse_71 : decode cX1_readHouse 71 = .ok (.getfield 149, 3) := by decide +kernel
theorem dX1_readHouse_74 : decode cX1_readHouse 74 = .ok (.iconst 1, 1) := by decide +kernel
theorem dX1_readHouse_75 : decode cX1_readHouse 75 = .ok (.iadd, 1) := by decide +kernel
theorem dX1_readHouse_76 : decode cX1_readHouse 76 = .ok (.putfield 149, 3) := by decide +kernel
theorem dX1_readHouse_79 : decode cX1_readHouse 79 = .ok (.return_, 1) := by decide +kernel
theorem dX1_readOrder_0 : decode cX1_readOrder 0 = .ok (.aload_n 0, 1) := by decide +kernel
theorem dX1_readOrder_1 : decode cX1_readOrder 1 = .ok (.getfield 12, 3) := by decide +kernel
theorem dX1_readOrder_4 : decode cX1_readOrder 4 = .ok (.getfield 154, 3) := by decide +kernel
theorem dX1_readOrder_7 : decode cX1_readOrder 7 = .ok (.iconst 5, 1) := by decide +kernel
theorem dX1_readOrder_8 : decode cX1_readOrder 8 = .ok (.if_icmp .lt 13, 3) := by decide +kernel
theorem dX1_readOrder_11 : decode cX1_readOrder 11 = .ok (.aload_n 0, 1) := by decide +kernel
theorem dX1_readOrder_12 : decode cX1_readOrder 12 = .ok (.iconst 5, 1) := by decide +kernel
theorem dX1_readOrder_13 : decode cX1_readOrder 13 = .ok (.aload_n 0, 1) := by decide +kernel
theorem dX1_readOrder_14 : decode cX1_readOrder 14 = .ok (.getfield 79, 3) := by decide +kernel
theorem dX1_readOrder_17 : decode cX1_readOrder 17 = .ok (.invokevirtual 92, 3) := by decide +kernel
theorem dX1_readOrder_20 : decode cX1_readOrder 20 = .ok (.return_, 1) := by decide +kernel
theorem dX1_readOrder_21 : decode cX1_readOrder 21 = .ok (.aload_n 0, 1) := by decide +kernel
theorem dX1_readOrder_22 : decode cX1_readOrder 22 = .ok (.invokevirtual 47, 3) := by decide +kernel
theorem dX1_readOrder_25 : decode cX1_readOrder 25 = .ok (.aload_n 0, 1) := by decide +kernel
theorem dX1_readOrder_26 : decode cX1_readOrder 26 = .ok (.getfield 12, 3) := by decide +kernel
theorem dX1_readOrder_29 : decode cX1_readOrder 29 = .ok (.getfield 154, 3) := by decide +kernel
theorem dX1_readOrder_32 : decode cX1_readOrder 32 = .ok (.iconst 5, 1) := by decide +kernel
theorem dX1_readOrder_33 : decode cX1_readOrder 33 = .ok (.imul, 1) := by decide +kernel
theorem dX1_readOrder_34 : decode cX1_readOrder 34 = .ok (.istore_n 1, 1) := by decide +kernel
theorem dX1_readOrder_35 : decode cX1_readOrder 35 = .ok (.aload_n 0, 1) := by decide +kernel
theorem dX1_readOrder_36 : decode cX1_readOrder 36 = .ok (.getfield 12, 3) := by decide +kernel
theorem dX1_readOrder_39 : decode cX1_readOrder 39 = .ok (.getfield 157, 3) := by decide +kernel
theorem dX1_readOrder_42 : decode cX1_readOrder 42 = .ok (.iload_n 1, 1) := by decide +kernel
theorem dX1_readOrder_43 : decode cX1_readOrder 43 = .ok (.iconst 0, 1) := by decide +kernel
theorem dX1_readOrder_44 : decode cX1_readOrder 44 = .ok (.iadd, 1) := by decide +kernel
theorem dX1_readOrder_45 : decode cX1_readOrder 45 = .ok (.aload_n 0, 1) := by decide +kernel
theorem dX1_readOrder_46 : decode cX1_readOrder 46 = .ok (.invokevirtual 160, 3) := by decide +kernel
theorem dX1_readOrder_49 : decode cX1_readOrder 49 = .ok (.iastore, 1) := by decide +kernel
theorem dX1_readOrder_50 : decode cX1_readOrder 50 = .ok (.iconst 1, 1) := by decide +kernel
theorem dX1_readOrder_51 : decode cX1_readOrder 51 = .ok (.istore_n 2, 1) := by decide +kernel
theorem dX1_readOrder_52 : decode cX1_readOrder 52 = .ok (.iload_n 2, 1) := by decide +kernel
theorem dX1_readOrder_53 : decode cX1_readOrder 53 = .ok (.iconst 4, 1) := by decide +kernel
theorem dX1_readOrder_54 : decode cX1_readOrder 54 = .ok (.if_icmp .gt 32, 3) := by decide +kernel
theorem dX1_readOrder_57 : decode cX1_readOrder 57 = .ok (.aload_n 0, 1) := by decide +kernel
theorem dX1_readOrder_58 : decode cX1_readOrder 58 = .ok (.getfield 12, 3) := by decide +kernel
theorem dX1_readOrder_61 : decode cX1_readOrder 61 = .ok (.getfield 157, 3) := by decide +kernel
theorem dX1_readOrder_64 : decode cX1_readOrder 64 = .ok (.iload_n 1, 1) := by decide +kernel
theorem dX1_readOrder_65 : decode cX1_readOrder 65 = .ok (.iload_n 2, 1) := by decide +kernel
theorem dX1_readOrder_66 : decode cX1_readOrder 66 = .ok (.iadd, 1) := by decide +kernel
theorem dX1_readOrder_67 : decode cX1_readOrder 67 = .ok (.aload_n 0, 1) := by decide +kernel
theorem dX1_readOrder_68 : decode cX1_readOrder 68 = .ok (.iload_n 2, 1) := by decide +kernel
theorem dX1_readOrder_69 : decode cX1_readOrder 69 = .ok (.invokestatic 163, 3) := by decide +kernel
theorem dX1_readOrder_72 : decode cX1_readOrder 72 = .ok (.iload_n 2, 1) := by decide +kernel
theorem dX1_readOrder_73 : decode cX1_readOrder 73 = .ok (.invokestatic 167, 3) := by decide +kernel
theorem dX1_readOrder_76 : decode cX1_readOrder 76 = .ok (.invokevirtual 129, 3) := by decide +kernel
theorem dX1_readOrder_79 : decode cX1_readOrder 79 = .ok (.iastore, 1) := by decide +kernel
theorem dX1_readOrder_80 : decode cX1_readOrder 80 = .ok (.iinc 2 1, 3) := by decide +kernel
theorem dX1_readOrder_83 : decode cX1_readOrder 83 = .ok (.goto (-31), 3) := by decide +kernel
theorem dX1_readOrder_86 : decode cX1_readOrder 86 = .ok (.aload_n 0, 1) := by decide +kernel
theorem dX1_readOrder_87 : decode cX1_readOrder 87 = .ok (.getfield 12, 3) := by decide +kernel
theorem dX1_readOrder_90 : decode cX1_readOrder 90 = .ok (.dup, 1) := by decide +kernel
theorem dX1_readOrder_91 : decode cX1_readOrder 91 = .ok (.getfield 154, 3) := by decide +kernel
theorem dX1_readOrder_94 : decode cX1_readOrder 94 = .ok (.iconst 1, 1) := by decide +kernel
theorem dX1_readOrder_95 : decode cX1_readOrder 95 = .ok (.iadd, 1) := by decide +kernel
theorem dX1_readOrder_96 : decode cX1_readOrder 96 = .ok (.putfield 154, 3) := by decide +kernel
theorem dX1_readOrder_99 : decode cX1_readOrder 99 = .ok (.return_, 1) := by decide +kernel
theorem dX1_takeKind_0 : decode cX1_takeKind 0 = .ok (.aload_n 0, 1) := by decide +kernel
theorem dX1_takeKind_1 : decode cX1_takeKind 1 = .ok (.getfield 29, 3) := by decide +kernel
theorem dX1_takeKind_4 : decode cX1_takeKind 4 = .ok (.ifCond .eq 5, 3) := by decide +kernel
theorem dX1_takeKind_7 : decode cX1_takeKind 7 = .ok (.iconst 0, 1) := by decide +kernel
theorem dX1_takeKind_8 : decode cX1_takeKind 8 = .ok (.ireturn, 1) := by decide +kernel
theorem dX1_takeKind_9 : decode cX1_takeKind 9 = .ok (.aload_n 0, 1) := by decide +kernel
theorem dX1_takeKind_10 : decode cX1_takeKind 10 = .ok (.invokevirtual 170, 3) := by decide +kernel
theorem dX1_takeKind_13 : decode cX1_takeKind 13 = .ok (.istore_n 1, 1) := by decide +kernel
theorem dX1_takeKind_14 : decode cX1_takeKind 14 = .ok (.iload_n 1, 1) := by decide +kernel
theorem dX1_takeKind_15 : decode cX1_takeKind 15 = .ok (.ifCond .ge 14, 3) := by decide +kernel
theorem dX1_takeKind_18 : decode cX1_takeKind 18 = .ok (.aload_n 0, 1) := by decide +kernel
theorem dX1_takeKind_19 : decode cX1_takeKind 19 = .ok (.iconst 2, 1) := by decide +kernel
theorem dX1_takeKind_20 : decode cX1_takeKind 20 = .ok (.aload_n 0, 1) := by decide +kernel
theorem dX1_takeKind_21 : decode cX1_takeKind 21 = .ok (.getfield 79, 3) := by decide +kernel
theorem dX1_takeKind_24 : decode cX1_takeKind 24 = .ok (.invokevirtual 92, 3) := by decide +kernel
theorem dX1_takeKind_27 : decode cX1_takeKind 27 = .ok (.iconst 0, 1) := by decide +kernel
theorem dX1_takeKind_28 : decode cX1_takeKind 28 = .ok (.ireturn, 1) := by decide +kernel
theorem dX1_takeKind_29 : decode cX1_takeKind 29 = .ok (.aload_n 0, 1) := by decide +kernel
theorem dX1_takeKind_30 : decode cX1_takeKind 30 = .ok (.invokevirtual 47, 3) := by decide +kernel
theorem dX1_takeKind_33 : decode cX1_takeKind 33 = .ok (.iload_n 1, 1) := by decide +kernel
theorem dX1_takeKind_34 : decode cX1_takeKind 34 = .ok (.ireturn, 1) := by decide +kernel
theorem dX1_kindNamed_0 : decode cX1_kindNamed 0 = .ok (.aload_n 0, 1) := by decide +kernel
theorem dX1_kindNamed_1 : decode cX1_kindNamed 1 = .ok (.ldc 173, 2) := by decide +kernel
theorem dX1_kindNamed_3 : decode cX1_kindNamed 3 = .ok (.invokevirtual 107, 3) := by decide +kernel
theorem dX1_kindNamed_6 : decode cX1_kindNamed 6 = .ok (.ifCond .eq 5, 3) := by decide +kernel
theorem dX1_kindNamed_9 : decode cX1_kindNamed 9 = .ok (.iconst 0, 1) := by decide +kernel
theorem dX1_kindNamed_10 : decode cX1_kindNamed 10 = .ok (.ireturn, 1) := by decide +kernel
theorem dX1_kindNamed_11 : decode cX1_kindNamed 11 = .ok (.aload_n 0, 1) := by decide +kernel
theorem dX1_kindNamed_12 : decode cX1_kindNamed 12 = .ok (.ldc 175, 2) := by decide +kernel
theorem dX1_kindNamed_14 : decode cX1_kindNamed 14 = .ok (.invokevirtual 107, 3) := by decide +kernel
theorem dX1_kindNamed_17 : decode cX1_kindNamed 17 = .ok (.ifCond .eq 5, 3) := by decide +kernel
theorem dX1_kindNamed_20 : decode cX1_kindNamed 20 = .ok (.iconst 1, 1) := by decide +kernel
theorem dX1_kindNamed_21 : decode cX1_kindNamed 21 = .ok (.ireturn, 1) := by decide +kernel
theorem dX1_kindNamed_22 : decode cX1_kindNamed 22 = .ok (.aload_n 0, 1) := by decide +kernel
theorem dX1_kindNamed_23 : decode cX1_kindNamed 23 = .ok (.ldc 177, 2) := by decide +kernel
theorem dX1_kindNamed_25 : decode cX1_kindNamed 25 = .ok (.invokevirtual 107, 3) := by decide +kernel
theorem dX1_kindNamed_28 : decode cX1_kindNamed 28 = .ok (.ifCond .eq 5, 3) := by decide +kernel
theorem dX1_kindNamed_31 : decode cX1_kindNamed 31 = .ok (.iconst 2, 1) := by decide +kernel
theorem dX1_kindNamed_32 : decode cX1_kindNamed 32 = .ok (.ireturn, 1) := by decide +kernel
theorem dX1_kindNamed_33 : decode cX1_kindNamed 33 = .ok (.aload_n 0, 1) := by decide +kernel
theorem dX1_kindNamed_34 : decode cX1_kindNamed 34 = .ok (.ldc 179, 2) := by decide +kernel
theorem dX1_kindNamed_36 : decode cX1_kindNamed 36 = .ok (.invokevirtual 107, 3) := by decide +kernel
theorem dX1_kindNamed_39 : decode cX1_kindNamed 39 = .ok (.ifCond .eq 5, 3) := by decide +kernel
theorem dX1_kindNamed_42 : decode cX1_kindNamed 42 = .ok (.iconst 3, 1) := by decide +kernel
theorem dX1_kindNamed_43 : decode cX1_kindNamed 43 = .ok (.ireturn, 1) := by decide +kernel
theorem dX1_kindNamed_44 : decode cX1_kindNamed 44 = .ok (.aload_n 0, 1) := by decide +kernel
theorem dX1_kindNamed_45 : decode cX1_kindNamed 45 = .ok (.ldc 181, 2) := by decide +kernel
theorem dX1_kindNamed_47 : decode cX1_kindNamed 47 = .ok (.invokevirtual 107, 3) := by decide +kernel
theorem dX1_kindNamed_50 : decode cX1_kindNamed 50 = .ok (.ifCond .eq 7, 3) := by decide +kernel
theorem dX1_kindNamed_53 : decode cX1_kindNamed 53 = .ok (.iconst 4, 1) := by decide +kernel
theorem dX1_kindNamed_54 : decode cX1_kindNamed 54 = .ok (.goto 4, 3) := by decide +kernel
theorem dX1_kindNamed_57 : decode cX1_kindNamed 57 = .ok (.iconst (-1), 1) := by decide +kernel
theorem dX1_kindNamed_58 : decode cX1_kindNamed 58 = .ok (.ireturn, 1) := by decide +kernel
theorem dX1_takeNumber_0 : decode cX1_takeNumber 0 = .ok (.aload_n 0, 1) := by decide +kernel
theorem dX1_takeNumber_1 : decode cX1_takeNumber 1 = .ok (.iload_n 1, 1) := by decide +kernel
theorem dX1_takeNumber_2 : decode cX1_takeNumber 2 = .ok (.iload_n 2, 1) := by decide +kernel
theorem dX1_takeNumber_3 : decode cX1_takeNumber 3 = .ok (.invokevirtual 183, 3) := by decide +kernel
theorem dX1_takeNumber_6 : decode cX1_takeNumber 6 = .ok (.aload_n 0, 1) := by decide +kernel
theorem dX1_takeNumber_7 : decode cX1_takeNumber 7 = .ok (.getfield 29, 3) := by decide +kernel
theorem dX1_takeNumber_10 : decode cX1_takeNumber 10 = .ok (.ifCond .eq 5, 3) := by decide +kernel
theorem dX1_takeNumber_13 : decode cX1_takeNumber 13 = .ok (.iconst 0, 1) := by decide +kernel
theorem dX1_takeNumber_14 : decode cX1_takeNumber 14 = .ok (.ireturn, 1) := by decide +kernel
theorem dX1_takeNumber_15 : decode cX1_takeNumber 15 = .ok (.aload_n 0, 1) := by decide +kernel
theorem dX1_takeNumber_16 : decode cX1_takeNumber 16 = .ok (.getfield 89, 3) := by decide +kernel
theorem dX1_takeNumber_19 : decode cX1_takeNumber 19 = .ok (.istore_n 3, 1) := by decide +kernel
theorem dX1_takeNumber_20 : decode cX1_takeNumber 20 = .ok (.aload_n 0, 1) := by decide +kernel
theorem dX1_takeNumber_21 : decode cX1_takeNumber 21 = .ok (.invokevirtual 47, 3) := by decide +kernel
theorem dX1_takeNumber_24 : decode cX1_takeNumber 24 = .ok (.iload_n 3, 1) := by decide +kernel
theorem dX1_takeNumber_25 : decode cX1_takeNumber 25 = .ok (.ireturn, 1) := by decide +kernel
theorem dX1_checkNumber_0 : decode cX1_checkNumber 0 = .ok (.aload_n 0, 1) := by decide +kernel
theorem dX1_checkNumber_1 : decode cX1_checkNumber 1 = .ok (.getfield 29, 3) := by decide +kernel
theorem dX1_checkNumber_4 : decode cX1_checkNumber 4 = .ok (.ifCond .ne 20, 3) := by decide +kernel
theorem dX1_checkNumber_7 : decode cX1_checkNumber 7 = .ok (.aload_n 0, 1) := by decide +kernel
theorem dX1_checkNumber_8 : decode cX1_checkNumber 8 = .ok (.getfield 50, 3) := by decide +kernel
theorem dX1_checkNumber_11 : decode cX1_checkNumber 11 = .ok (.iconst 2, 1) := by decide +kernel
theorem dX1_checkNumber_12 : decode cX1_checkNumber 12 = .ok (.if_icmp .eq 12, 3) := by decide +kernel
theorem dX1_checkNumber_15 : decode cX1_checkNumber 15 = .ok (.aload_n 0, 1) := by decide +kernel
theorem dX1_checkNumber_16 : decode cX1_checkNumber 16 = .ok (.iconst 2, 1) := by decide +kernel
theorem dX1_checkNumber_17 : decode cX1_checkNumber 17 = .ok (.aload_n 0, 1) := by decide +kernel
theorem dX1_checkNumber_18 : decode cX1_checkNumber 18 = .ok (.getfield 79, 3) := by decide +kernel
theorem dX1_checkNumber_21 : decode cX1_checkNumber 21 = .ok (.invokevirtual 92, 3) := by decide +kernel
theorem dX1_checkNumber_24 : decode cX1_checkNumber 24 = .ok (.aload_n 0, 1) := by decide +kernel
theorem dX1_checkNumber_25 : decode cX1_checkNumber 25 = .ok (.getfield 29, 3) := by decide +kernel
theorem dX1_checkNumber_28 : decode cX1_checkNumber 28 = .ok (.ifCond .ne 24, 3) := by decide +kernel
theorem dX1_checkNumber_31 : decode cX1_checkNumber 31 = .ok (.aload_n 0, 1) := by decide +kernel
theorem dX1_checkNumber_32 : decode cX1_checkNumber 32 = .ok (.getfield 89, 3) := by decide +kernel
theorem dX1_checkNumber_35 : decode cX1_checkNumber 35 = .ok (.iload_n 1, 1) := by decide +kernel
theorem dX1_checkNumber_36 : decode cX1_checkNumber 36 = .ok (.iload_n 2, 1) := by decide +kernel
theorem dX1_checkNumber_37 : decode cX1_checkNumber 37 = .ok (.invokestatic 186, 3) := by decide +kernel
theorem dX1_checkNumber_40 : decode cX1_checkNumber 40 = .ok (.ifCond .ne 12, 3) := by decide +kernel
theorem dX1_checkNumber_43 : decode cX1_checkNumber 43 = .ok (.aload_n 0, 1) := by decide +kernel
theorem dX1_checkNumber_44 : decode cX1_checkNumber 44 = .ok (.iconst 3, 1) := by decide +kernel
theorem dX1_checkNumber_45 : decode cX1_checkNumber 45 = .ok (.aload_n 0, 1) := by decide +kernel
theorem dX1_checkNumber_46 : decode cX1_checkNumber 46 = .ok (.getfield 79, 3) := by decide +kernel
theorem dX1_checkNumber_49 : decode cX1_checkNumber 49 = .ok (.invokevirtual 92, 3) := by decide +kernel
theorem dX1_checkNumber_52 : decode cX1_checkNumber 52 = .ok (.return_, 1) := by decide +kernel
theorem dX1_takeRow_0 : decode cX1_takeRow 0 = .ok (.iconst 0, 1) := by decide +kernel
theorem dX1_takeRow_1 : decode cX1_takeRow 1 = .ok (.istore_n 2, 1) := by decide +kernel
theorem dX1_takeRow_2 : decode cX1_takeRow 2 = .ok (.iconst 0, 1) := by decide +kernel
theorem dX1_takeRow_3 : decode cX1_takeRow 3 = .ok (.istore_n 3, 1) := by decide +kernel
theorem dX1_takeRow_4 : decode cX1_takeRow 4 = .ok (.iload_n 3, 1) := by decide +kernel
theorem dX1_takeRow_5 : decode cX1_takeRow 5 = .ok (.iconst 5, 1) := by decide +kernel
theorem dX1_takeRow_6 : decode cX1_takeRow 6 = .ok (.if_icmp .gt 90, 3) := by decide +kernel
theorem dX1_takeRow_9 : decode cX1_takeRow 9 = .ok (.aload_n 0, 1) := by decide +kernel
theorem dX1_takeRow_10 : decode cX1_takeRow 10 = .ok (.getfield 29, 3) := by decide +kernel
theorem dX1_takeRow_13 : decode cX1_takeRow 13 = .ok (.ifCond .ne 83, 3) := by decide +kernel
theorem dX1_takeRow_16 : decode cX1_takeRow 16 = .ok (.aload_n 0, 1) := by decide +kernel
theorem dX1_takeRow_17 : decode cX1_takeRow 17 = .ok (.getfield 50, 3) := by decide +kernel
theorem dX1_takeRow_20 : decode cX1_takeRow 20 = .ok (.iconst 2, 1) := by decide +kernel
theorem dX1_takeRow_21 : decode cX1_takeRow 21 = .ok (.if_icmp .ne 75, 3) := by decide +kernel
theorem dX1_takeRow_24 : decode cX1_takeRow 24 = .ok (.aload_n 0, 1) := by decide +kernel
theorem dX1_takeRow_25 : decode cX1_takeRow 25 = .ok (.iconst 0, 1) := by decide +kernel
theorem dX1_takeRow_26 : decode cX1_takeRow 26 = .ok (.iconst 4, 1) := by decide +kernel
theorem dX1_takeRow_27 : decode cX1_takeRow 27 = .ok (.invokevirtual 183, 3) := by decide +kernel
theorem dX1_takeRow_30 : decode cX1_takeRow 30 = .ok (.aload_n 0, 1) := by decide +kernel
theorem dX1_takeRow_31 : decode cX1_takeRow 31 = .ok (.getfield 29, 3) := by decide +kernel
theorem dX1_takeRow_34 : decode cX1_takeRow 34 = .ok (.ifCond .ne 24, 3) := by decide +kernel
theorem dX1_takeRow_37 : decode cX1_takeRow 37 = .ok (.iload_n 2, 1) := by decide +kernel
theorem dX1_takeRow_38 : decode cX1_takeRow 38 = .ok (.aload_n 0, 1) := by decide +kernel
theorem dX1_takeRow_39 : decode cX1_takeRow 39 = .ok (.getfield 89, 3) := by decide +kernel
theorem dX1_takeRow_42 : decode cX1_takeRow 42 = .ok (.ishr, 1) := by decide +kernel
theorem dX1_takeRow_43 : decode cX1_takeRow 43 = .ok (.iconst 1, 1) := by decide +kernel
theorem dX1_takeRow_44 : decode cX1_takeRow 44 = .ok (.iand, 1) := by decide +kernel
theorem dX1_takeRow_45 : decode cX1_takeRow 45 = .ok (.iconst 1, 1) := by decide +kernel
theorem dX1_takeRow_46 : decode cX1_takeRow 46 = .ok (.if_icmp .ne 12, 3) := by decide +kernel
theorem dX1_takeRow_49 : decode cX1_takeRow 49 = .ok (.aload_n 0, 1) := by decide +kernel
theorem dX1_takeRow_50 : decode cX1_takeRow 50 = .ok (.iconst 4, 1) := by decide +kernel
theorem dX1_takeRow_51 : decode cX1_takeRow 51 = .ok (.aload_n 0, 1) := by decide +kernel
theorem dX1_takeRow_52 : decode cX1_takeRow 52 = .ok (.getfield 79, 3) := by decide +kernel
theorem dX1_takeRow_55 : decode cX1_takeRow 55 = .ok (.invokevirtual 92, 3) := by decide +kernel
theorem dX1_takeRow_58 : decode cX1_takeRow 58 = .ok (.aload_n 0, 1) := by decide +kernel
theorem dX1_takeRow_59 : decode cX1_takeRow 59 = .ok (.getfield 29, 3) := by decide +kernel
theorem dX1_takeRow_62 : decode cX1_takeRow 62 = .ok (.ifCond .ne 28, 3) := by decide +kernel
theorem dX1_takeRow_65 : decode cX1_takeRow 65 = .ok (.iload_n 3, 1) := by decide +kernel
theorem dX1_takeRow_66 : decode cX1_takeRow 66 = .ok (.iconst 5, 1) := by decide +kernel
theorem dX1_takeRow_67 : decode cX1_takeRow 67 = .ok (.if_icmp .ge 23, 3) := by decide +kernel
theorem dX1_takeRow_70 : decode cX1_takeRow 70 = .ok (.aload_n 1, 1) := by decide +kernel
theorem dX1_takeRow_71 : decode cX1_takeRow 71 = .ok (.iload_n 3, 1) := by decide +kernel
theorem dX1_takeRow_72 : decode cX1_takeRow 72 = .ok (.aload_n 0, 1) := by decide +kernel
theorem dX1_takeRow_73 : decode cX1_takeRow 73 = .ok (.getfield 89, 3) := by decide +kernel
theorem dX1_takeRow_76 : decode cX1_takeRow 76 = .ok (.iastore, 1) := by decide +kernel
theorem dX1_takeRow_77 : decode cX1_takeRow 77 = .ok (.iload_n 2, 1) := by decide +kernel
theorem dX1_takeRow_78 : decode cX1_takeRow 78 = .ok (.iconst 1, 1) := by decide +kernel
theorem dX1_takeRow_79 : decode cX1_takeRow 79 = .ok (.aload_n 0, 1) := by decide +kernel
theorem dX1_takeRow_80 : decode cX1_takeRow 80 = .ok (.getfield 89, 3) := by decide +kernel
theorem dX1_takeRow_83 : decode cX1_takeRow 83 = .ok (.ishl, 1) := by decide +kernel
theorem dX1_takeRow_84 : decode cX1_takeRow 84 = .ok (.ior, 1) := by decide +kernel
theorem dX1_takeRow_85 : decode cX1_takeRow 85 = .ok (.istore_n 2, 1) := by decide +kernel
theorem dX1_takeRow_86 : decode cX1_takeRow 86 = .ok (.aload_n 0, 1) := by decide +kernel
theorem dX1_takeRow_87 : decode cX1_takeRow 87 = .ok (.invokevirtual 47, 3) := by decide +kernel
theorem dX1_takeRow_90 : decode cX1_takeRow 90 = .ok (.iinc 3 1, 3) := by decide +kernel
theorem dX1_takeRow_93 : decode cX1_takeRow 93 = .ok (.goto (-89), 3) := by decide +kernel
theorem dX1_takeRow_96 : decode cX1_takeRow 96 = .ok (.iload_n 2, 1) := by decide +kernel
theorem dX1_takeRow_97 : decode cX1_takeRow 97 = .ok (.ireturn, 1) := by decide +kernel
theorem dX1_takeSemicolon_0 : decode cX1_takeSemicolon 0 = .ok (.aload_n 0, 1) := by decide +kernel
theorem dX1_takeSemicolon_1 : decode cX1_takeSemicolon 1 = .ok (.getfield 29, 3) := by decide +kernel
theorem dX1_takeSemicolon_4 : decode cX1_takeSemicolon 4 = .ok (.ifCond .ne 20, 3) := by decide +kernel
theorem dX1_takeSemicolon_7 : decode cX1_takeSemicolon 7 = .ok (.aload_n 0, 1) := by decide +kernel
theorem dX1_takeSemicolon_8 : decode cX1_takeSemicolon 8 = .ok (.getfield 50, 3) := by decide +kernel
theorem dX1_takeSemicolon_11 : decode cX1_takeSemicolon 11 = .ok (.iconst 3, 1) := by decide +kernel
theorem dX1_takeSemicolon_12 : decode cX1_takeSemicolon 12 = .ok (.if_icmp .eq 12, 3) := by decide +kernel
theorem dX1_takeSemicolon_15 : decode cX1_takeSemicolon 15 = .ok (.aload_n 0, 1) := by decide +kernel
theorem dX1_takeSemicolon_16 : decode cX1_takeSemicolon 16 = .ok (.iconst 2, 1) := by decide +kernel
theorem dX1_takeSemicolon_17 : decode cX1_takeSemicolon 17 = .ok (.aload_n 0, 1) := by decide +kernel
theorem dX1_takeSemicolon_18 : decode cX1_takeSemicolon 18 = .ok (.getfield 79, 3) := by decide +kernel
theorem dX1_takeSemicolon_21 : decode cX1_takeSemicolon 21 = .ok (.invokevirtual 92, 3) := by decide +kernel
theorem dX1_takeSemicolon_24 : decode cX1_takeSemicolon 24 = .ok (.aload_n 0, 1) := by decide +kernel
theorem dX1_takeSemicolon_25 : decode cX1_takeSemicolon 25 = .ok (.getfield 29, 3) := by decide +kernel
theorem dX1_takeSemicolon_28 : decode cX1_takeSemicolon 28 = .ok (.ifCond .ne 7, 3) := by decide +kernel
theorem dX1_takeSemicolon_31 : decode cX1_takeSemicolon 31 = .ok (.aload_n 0, 1) := by decide +kernel
theorem dX1_takeSemicolon_32 : decode cX1_takeSemicolon 32 = .ok (.invokevirtual 47, 3) := by decide +kernel
theorem dX1_takeSemicolon_35 : decode cX1_takeSemicolon 35 = .ok (.return_, 1) := by decide +kernel
theorem dX1_findMissing_0 : decode cX1_findMissing 0 = .ok (.aload_n 0, 1) := by decide +kernel
theorem dX1_findMissing_1 : decode cX1_findMissing 1 = .ok (.getfield 41, 3) := by decide +kernel
theorem dX1_findMissing_4 : decode cX1_findMissing 4 = .ok (.aload_n 0, 1) := by decide +kernel
theorem dX1_findMissing_5 : decode cX1_findMissing 5 = .ok (.getfield 44, 3) := by decide +kernel
theorem dX1_findMissing_8 : decode cX1_findMissing 8 = .ok (.ior, 1) := by decide +kernel
theorem dX1_findMissing_9 : decode cX1_findMissing 9 = .ok (.aload_n 0, 1) := by decide +kernel
theorem dX1_findMissing_10 : decode cX1_findMissing 10 = .ok (.getfield 12, 3) := by decide +kernel
theorem dX1_findMissing_13 : decode cX1_findMissing 13 = .ok (.getfield 154, 3) := by decide +kernel
theorem dX1_findMissing_16 : decode cX1_findMissing 16 = .ok (.ishr, 1) := by decide +kernel
theorem dX1_findMissing_17 : decode cX1_findMissing 17 = .ok (.ifCond .eq 7, 3) := by decide +kernel
theorem dX1_findMissing_20 : decode cX1_findMissing 20 = .ok (.iconst 1, 1) := by decide +kernel
theorem dX1_findMissing_21 : decode cX1_findMissing 21 = .ok (.goto 4, 3) := by decide +kernel
theorem dX1_findMissing_24 : decode cX1_findMissing 24 = .ok (.iconst 0, 1) := by decide +kernel
theorem dX1_findMissing_25 : decode cX1_findMissing 25 = .ok (.istore_n 1, 1) := by decide +kernel
theorem dX1_findMissing_26 : decode cX1_findMissing 26 = .ok (.iconst 0, 1) := by decide +kernel
theorem dX1_findMissing_27 : decode cX1_findMissing 27 = .ok (.istore_n 2, 1) := by decide +kernel
theorem dX1_findMissing_28 : decode cX1_findMissing 28 = .ok (.iload_n 2, 1) := by decide +kernel
theorem dX1_findMissing_29 : decode cX1_findMissing 29 = .ok (.aload_n 0, 1) := by decide +kernel
theorem dX1_findMissing_30 : decode cX1_findMissing 30 = .ok (.getfield 12, 3) := by decide +kernel
theorem dX1_findMissing_33 : decode cX1_findMissing 33 = .ok (.getfield 154, 3) := by decide +kernel
theorem dX1_findMissing_36 : decode cX1_findMissing 36 = .ok (.if_icmp .ge 38, 3) := by decide +kernel
theorem dX1_findMissing_39 : decode cX1_findMissing 39 = .ok (.iload_n 1, 1) := by decide +kernel
theorem dX1_findMissing_40 : decode cX1_findMissing 40 = .ok (.ifCond .ne 22, 3) := by decide +kernel
theorem dX1_findMissing_43 : decode cX1_findMissing 43 = .ok (.aload_n 0, 1) := by decide +kernel
theorem dX1_findMissing_44 : decode cX1_findMissing 44 = .ok (.getfield 12, 3) := by decide +kernel
theorem dX1_findMissing_47 : decode cX1_findMissing 47 = .ok (.iload_n 2, 1) := by decide +kernel
theorem dX1_findMissing_48 : decode cX1_findMissing 48 = .ok (.iconst 1, 1) := by decide +kernel
theorem dX1_findMissing_49 : decode cX1_findMissing 49 = .ok (.invokevirtual 190, 3) := by decide +kernel
theorem dX1_findMissing_52 : decode cX1_findMissing 52 = .ok (.aload_n 0, 1) := by decide +kernel
theorem dX1_findMissing_53 : decode cX1_findMissing 53 = .ok (.getfield 12, 3) := by decide +kernel
theorem dX1_findMissing_56 : decode cX1_findMissing 56 = .ok (.getfield 149, 3) := by decide +kernel
theorem dX1_findMissing_59 : decode cX1_findMissing 59 = .ok (.if_icmp .le 7, 3) := by decide +kernel
theorem dX1_findMissing_62 : decode cX1_findMissing 62 = .ok (.iconst 1, 1) := by decide +kernel
theorem dX1_findMissing_63 : decode cX1_findMissing 63 = .ok (.goto 4, 3) := by decide +kernel
theorem dX1_findMissing_66 : decode cX1_findMissing 66 = .ok (.iconst 0, 1) := by decide +kernel
theorem dX1_findMissing_67 : decode cX1_findMissing 67 = .ok (.istore_n 1, 1) := by decide +kernel
theorem dX1_findMissing_68 : decode cX1_findMissing 68 = .ok (.iinc 2 1, 3) := by decide +kernel
theorem dX1_findMissing_71 : decode cX1_findMissing 71 = .ok (.goto (-43), 3) := by decide +kernel
theorem dX1_findMissing_74 : decode cX1_findMissing 74 = .ok (.iload_n 1, 1) := by decide +kernel
theorem dX1_findMissing_75 : decode cX1_findMissing 75 = .ok (.ifCond .eq 16, 3) := by decide +kernel
theorem dX1_findMissing_78 : decode cX1_findMissing 78 = .ok (.aload_n 0, 1) := by decide +kernel
theorem dX1_findMissing_79 : decode cX1_findMissing 79 = .ok (.bipush 6, 2) := by decide +kernel
theorem dX1_findMissing_81 : decode cX1_findMissing 81 = .ok (.aload_n 0, 1) := by decide +kernel
theorem dX1_findMissing_82 : decode cX1_findMissing 82 = .ok (.getfield 18, 3) := by decide +kernel
theorem dX1_findMissing_85 : decode cX1_findMissing 85 = .ok (.getfield 70, 3) := by decide +kernel
theorem dX1_findMissing_88 : decode cX1_findMissing 88 = .ok (.invokevirtual 92, 3) := by decide +kernel
theorem dX1_findMissing_91 : decode cX1_findMissing 91 = .ok (.return_, 1) := by decide +kernel
theorem dX1_addOthers_0 : decode cX1_addOthers 0 = .ok (.iload_n 2, 1) := by decide +kernel
theorem dX1_addOthers_1 : decode cX1_addOthers 1 = .ok (.invokestatic 193, 3) := by decide +kernel
theorem dX1_addOthers_4 : decode cX1_addOthers 4 = .ok (.istore_n 3, 1) := by decide +kernel
theorem dX1_addOthers_5 : decode cX1_addOthers 5 = .ok (.iconst 0, 1) := by decide +kernel
theorem dX1_addOthers_6 : decode cX1_addOthers 6 = .ok (.istore 4, 2) := by decide +kernel
theorem dX1_addOthers_8 : decode cX1_addOthers 8 = .ok (.iload 4, 2) := by decide +kernel
theorem dX1_addOthers_10 : decode cX1_addOthers 10 = .ok (.aload_n 0, 1) := by decide +kernel
theorem dX1_addOthers_11 : decode cX1_addOthers 11 = .ok (.getfield 12, 3) := by decide +kernel
theorem dX1_addOthers_14 : decode cX1_addOthers 14 = .ok (.getfield 154, 3) := by decide +kernel
theorem dX1_addOthers_17 : decode cX1_addOthers 17 = .ok (.if_icmp .ge 31, 3) := by decide +kernel
theorem dX1_addOthers_20 : decode cX1_addOthers 20 = .ok (.iload_n 3, 1) := by decide +kernel
theorem dX1_addOthers_21 : decode cX1_addOthers 21 = .ok (.iconst 5, 1) := by decide +kernel
theorem dX1_addOthers_22 : decode cX1_addOthers 22 = .ok (.if_icmp .ge 26, 3) := by decide +kernel
theorem dX1_addOthers_25 : decode cX1_addOthers 25 = .ok (.iload_n 2, 1) := by decide +kernel
theorem dX1_addOthers_26 : decode cX1_addOthers 26 = .ok (.iload 4, 2) := by decide +kernel
theorem dX1_addOthers_28 : decode cX1_addOthers 28 = .ok (.ishr, 1) := by decide +kernel
theorem dX1_addOthers_29 : decode cX1_addOthers 29 = .ok (.iconst 1, 1) := by decide +kernel
theorem dX1_addOthers_30 : decode cX1_addOthers 30 = .ok (.iand, 1) := by decide +kernel
theorem dX1_addOthers_31 : decode cX1_addOthers 31 = .ok (.ifCond .ne 11, 3) := by decide +kernel
theorem dX1_addOthers_34 : decode cX1_addOthers 34 = .ok (.aload_n 1, 1) := by decide +kernel
theorem dX1_addOthers_35 : decode cX1_addOthers 35 = .ok (.iload_n 3, 1) := by decide +kernel
theorem dX1_addOthers_36 : decode cX1_addOthers 36 = .ok (.iload 4, 2) := by decide +kernel
theorem dX1_addOthers_38 : decode cX1_addOthers 38 = .ok (.iastore, 1) := by decide +kernel
theorem dX1_addOthers_39 : decode cX1_addOthers 39 = .ok (.iinc 3 1, 3) := by decide +kernel
theorem dX1_addOthers_42 : decode cX1_addOthers 42 = .ok (.iinc 4 1, 3) := by decide +kernel
theorem dX1_addOthers_45 : decode cX1_addOthers 45 = .ok (.goto (-37), 3) := by decide +kernel
theorem dX1_addOthers_48 : decode cX1_addOthers 48 = .ok (.return_, 1) := by decide +kernel
theorem dX2_init_0 : decode cX2_init 0 = .ok (.aload_n 0, 1) := by decide +kernel
theorem dX2_init_1 : decode cX2_init 1 = .ok (.invokespecial 3, 3) := by decide +kernel
theorem dX2_init_4 : decode cX2_init 4 = .ok (.aload_n 0, 1) := by decide +kernel
theorem dX2_init_5 : decode cX2_init 5 = .ok (.bipush 6, 2) := by decide +kernel
theorem dX2_init_7 : decode cX2_init 7 = .ok (.newarray .int, 2) := by decide +kernel
theorem dX2_init_9 : decode cX2_init 9 = .ok (.putfield 9, 3) := by decide +kernel
theorem dX2_init_12 : decode cX2_init 12 = .ok (.aload_n 0, 1) := by decide +kernel
theorem dX2_init_13 : decode cX2_init 13 = .ok (.bipush 6, 2) := by decide +kernel
theorem dX2_init_15 : decode cX2_init 15 = .ok (.newarray .int, 2) := by decide +kernel
theorem dX2_init_17 : decode cX2_init 17 = .ok (.putfield 15, 3) := by decide +kernel
theorem dX2_init_20 : decode cX2_init 20 = .ok (.return_, 1) := by decide +kernel
theorem dX2_add_0 : decode cX2_add 0 = .ok (.aload_n 0, 1) := by decide +kernel
theorem dX2_add_1 : decode cX2_add 1 = .ok (.getfield 9, 3) := by decide +kernel
theorem dX2_add_4 : decode cX2_add 4 = .ok (.aload_n 0, 1) := by decide +kernel
theorem dX2_add_5 : decode cX2_add 5 = .ok (.getfield 18, 3) := by decide +kernel
theorem dX2_add_8 : decode cX2_add 8 = .ok (.iload_n 1, 1) := by decide +kernel
theorem dX2_add_9 : decode cX2_add 9 = .ok (.iastore, 1) := by decide +kernel
theorem dX2_add_10 : decode cX2_add 10 = .ok (.aload_n 0, 1) := by decide +kernel
theorem dX2_add_11 : decode cX2_add 11 = .ok (.getfield 15, 3) := by decide +kernel
theorem dX2_add_14 : decode cX2_add 14 = .ok (.aload_n 0, 1) := by decide +kernel
theorem dX2_add_15 : decode cX2_add 15 = .ok (.getfield 18, 3) := by decide +kernel
theorem dX2_add_18 : decode cX2_add 18 = .ok (.iload_n 2, 1) := by decide +kernel
theorem dX2_add_19 : decode cX2_add 19 = .ok (.iastore, 1) := by decide +kernel
theorem dX2_add_20 : decode cX2_add 20 = .ok (.aload_n 0, 1) := by decide +kernel
theorem dX2_add_21 : decode cX2_add 21 = .ok (.dup, 1) := by decide +kernel
theorem dX2_add_22 : decode cX2_add 22 = .ok (.getfield 18, 3) := by decide +kernel
theorem dX2_add_25 : decode cX2_add 25 = .ok (.iconst 1, 1) := by decide +kernel
theorem dX2_add_26 : decode cX2_add 26 = .ok (.iadd, 1) := by decide +kernel
theorem dX2_add_27 : decode cX2_add 27 = .ok (.putfield 18, 3) := by decide +kernel
theorem dX2_add_30 : decode cX2_add 30 = .ok (.return_, 1) := by decide +kernel
theorem dX2_agreesWith_0 : decode cX2_agreesWith 0 = .ok (.iconst 1, 1) := by decide +kernel
theorem dX2_agreesWith_1 : decode cX2_agreesWith 1 = .ok (.istore_n 2, 1) := by decide +kernel
theorem dX2_agreesWith_2 : decode cX2_agreesWith 2 = .ok (.iconst 0, 1) := by decide +kernel
theorem dX2_agreesWith_3 : decode cX2_agreesWith 3 = .ok (.istore_n 3, 1) := by decide +kernel
theorem dX2_agreesWith_4 : decode cX2_agreesWith 4 = .ok (.iload_n 3, 1) := by decide +kernel
theorem dX2_agreesWith_5 : decode cX2_agreesWith 5 = .ok (.aload_n 0, 1) := by decide +kernel
theorem dX2_agreesWith_6 : decode cX2_agreesWith 6 = .ok (.getfield 18, 3) := by decide +kernel
theorem dX2_agreesWith_9 : decode cX2_agreesWith 9 = .ok (.if_icmp .ge 36, 3) := by decide +kernel
theorem dX2_agreesWith_12 : decode cX2_agreesWith 12 = .ok (.iload_n 2, 1) := by decide +kernel
theorem dX2_agreesWith_13 : decode cX2_agreesWith 13 = .ok (.ifCond .eq 24, 3) := by decide +kernel
theorem dX2_agreesWith_16 : decode cX2_agreesWith 16 = .ok (.aload_n 1, 1) := by decide +kernel
theorem dX2_agreesWith_17 : decode cX2_agreesWith 17 = .ok (.aload_n 0, 1) := by decide +kernel
theorem dX2_agreesWith_18 : decode cX2_agreesWith 18 = .ok (.getfield 9, 3) := by decide +kernel
theorem dX2_agreesWith_21 : decode cX2_agreesWith 21 = .ok (.iload_n 3, 1) := by decide +kernel
theorem dX2_agreesWith_22 : decode cX2_agreesWith 22 = .ok (.iaload, 1) := by decide +kernel
theorem dX2_agreesWith_23 : decode cX2_agreesWith 23 = .ok (.iaload, 1) := by decide +kernel
theorem dX2_agreesWith_24 : decode cX2_agreesWith 24 = .ok (.aload_n 0, 1) := by decide +kernel
theorem dX2_agreesWith_25 : decode cX2_agreesWith 25 = .ok (.getfield 15, 3) := by decide +kernel
theorem dX2_agreesWith_28 : decode cX2_agreesWith 28 = .ok (.iload_n 3, 1) := by decide +kernel
theorem dX2_agreesWith_29 : decode cX2_agreesWith 29 = .ok (.iaload, 1) := by decide +kernel
theorem dX2_agreesWith_30 : decode cX2_agreesWith 30 = .ok (.if_icmp .ne 7, 3) := by decide +kernel
theorem dX2_agreesWith_33 : decode cX2_agreesWith 33 = .ok (.iconst 1, 1) := by decide +kernel
theorem dX2_agreesWith_34 : decode cX2_agreesWith 34 = .ok (.goto 4, 3) := by decide +kernel
theorem dX2_agreesWith_37 : decode cX2_agreesWith 37 = .ok (.iconst 0, 1) := by decide +kernel
theorem dX2_agreesWith_38 : decode cX2_agreesWith 38 = .ok (.istore_n 2, 1) := by decide +kernel
theorem dX2_agreesWith_39 : decode cX2_agreesWith 39 = .ok (.iinc 3 1, 3) := by decide +kernel
theorem dX2_agreesWith_42 : decode cX2_agreesWith 42 = .ok (.goto (-38), 3) := by decide +kernel
theorem dX2_agreesWith_45 : decode cX2_agreesWith 45 = .ok (.iload_n 2, 1) := by decide +kernel
theorem dX2_agreesWith_46 : decode cX2_agreesWith 46 = .ok (.ireturn, 1) := by decide +kernel
theorem dX3_init_0 : decode cX3_init 0 = .ok (.aload_n 0, 1) := by decide +kernel
theorem dX3_init_1 : decode cX3_init 1 = .ok (.invokespecial 3, 3) := by decide +kernel
theorem dX3_init_4 : decode cX3_init 4 = .ok (.aload_n 0, 1) := by decide +kernel
theorem dX3_init_5 : decode cX3_init 5 = .ok (.iconst 4, 1) := by decide +kernel
theorem dX3_init_6 : decode cX3_init 6 = .ok (.bipush 40, 2) := by decide +kernel
theorem dX3_init_8 : decode cX3_init 8 = .ok (.multianewarray 9 2, 4) := by decide +kernel
theorem dX3_init_12 : decode cX3_init 12 = .ok (.putfield 11, 3) := by decide +kernel
theorem dX3_init_15 : decode cX3_init 15 = .ok (.aload_n 0, 1) := by decide +kernel
theorem dX3_init_16 : decode cX3_init 16 = .ok (.iconst 4, 1) := by decide +kernel
theorem dX3_init_17 : decode cX3_init 17 = .ok (.newarray .int, 2) := by decide +kernel
theorem dX3_init_19 : decode cX3_init 19 = .ok (.putfield 16, 3) := by decide +kernel
theorem dX3_init_22 : decode cX3_init 22 = .ok (.aload_n 0, 1) := by decide +kernel
theorem dX3_init_23 : decode cX3_init 23 = .ok (.iconst 4, 1) := by decide +kernel
theorem dX3_init_24 : decode cX3_init 24 = .ok (.newarray .int, 2) := by decide +kernel
theorem dX3_init_26 : decode cX3_init 26 = .ok (.dup, 1) := by decide +kernel
theorem dX3_init_27 : decode cX3_init 27 = .ok (.iconst 0, 1) := by decide +kernel
theorem dX3_init_28 : decode cX3_init 28 = .ok (.iconst (-1), 1) := by decide +kernel
theorem dX3_init_29 : decode cX3_init 29 = .ok (.iastore, 1) := by decide +kernel
theorem dX3_init_30 : decode cX3_init 30 = .ok (.dup, 1) := by decide +kernel
theorem dX3_init_31 : decode cX3_init 31 = .ok (.iconst 1, 1) := by decide +kernel
theorem dX3_init_32 : decode cX3_init 32 = .ok (.iconst (-1), 1) := by decide +kernel
theorem dX3_init_33 : decode cX3_init 33 = .ok (.iastore, 1) := by decide +kernel
theorem dX3_init_34 : decode cX3_init 34 = .ok (.dup, 1) := by decide +kernel
theorem dX3_init_35 : decode cX3_init 35 = .ok (.iconst 2, 1) := by decide +kernel
theorem dX3_init_36 : decode cX3_init 36 = .ok (.iconst (-1), 1) := by decide +kernel
theorem dX3_init_37 : decode cX3_init 37 = .ok (.iastore, 1) := by decide +kernel
theorem dX3_init_38 : decode cX3_init 38 = .ok (.dup, 1) := by decide +kernel
theorem dX3_init_39 : decode cX3_init 39 = .ok (.iconst 3, 1) := by decide +kernel
theorem dX3_init_40 : decode cX3_init 40 = .ok (.iconst (-1), 1) := by decide +kernel
theorem dX3_init_41 : decode cX3_init 41 = .ok (.iastore, 1) := by decide +kernel
theorem dX3_init_42 : decode cX3_init 42 = .ok (.putfield 20, 3) := by decide +kernel
theorem dX3_init_45 : decode cX3_init 45 = .ok (.return_, 1) := by decide +kernel
theorem dX3_renew_0 : decode cX3_renew 0 = .ok (.aload_n 0, 1) := by decide +kernel
theorem dX3_renew_1 : decode cX3_renew 1 = .ok (.getfield 11, 3) := by decide +kernel
theorem dX3_renew_4 : decode cX3_renew 4 = .ok (.iload_n 1, 1) := by decide +kernel
theorem dX3_renew_5 : decode cX3_renew 5 = .ok (.aaload, 1) := by decide +kernel
theorem dX3_renew_6 : decode cX3_renew 6 = .ok (.iconst 0, 1) := by decide +kernel
theorem dX3_renew_7 : decode cX3_renew 7 = .ok (.invokestatic 23, 3) := by decide +kernel
theorem dX3_renew_10 : decode cX3_renew 10 = .ok (.aload_n 0, 1) := by decide +kernel
theorem dX3_renew_11 : decode cX3_renew 11 = .ok (.getfield 16, 3) := by decide +kernel
theorem dX3_renew_14 : decode cX3_renew 14 = .ok (.iload_n 1, 1) := by decide +kernel
theorem dX3_renew_15 : decode cX3_renew 15 = .ok (.iload_n 2, 1) := by decide +kernel
theorem dX3_renew_16 : decode cX3_renew 16 = .ok (.iastore, 1) := by decide +kernel
theorem dX3_renew_17 : decode cX3_renew 17 = .ok (.aload_n 0, 1) := by decide +kernel
theorem dX3_renew_18 : decode cX3_renew 18 = .ok (.getfield 20, 3) := by decide +kernel
theorem dX3_renew_21 : decode cX3_renew 21 = .ok (.iload_n 1, 1) := by decide +kernel
theorem dX3_renew_22 : decode cX3_renew 22 = .ok (.iload_n 3, 1) := by decide +kernel
theorem dX3_renew_23 : decode cX3_renew 23 = .ok (.iastore, 1) := by decide +kernel
theorem dX3_renew_24 : decode cX3_renew 24 = .ok (.return_, 1) := by decide +kernel
theorem dX3_faultAt_0 : decode cX3_faultAt 0 = .ok (.aload_n 0, 1) := by decide +kernel
theorem dX3_faultAt_1 : decode cX3_faultAt 1 = .ok (.getfield 20, 3) := by decide +kernel
theorem dX3_faultAt_4 : decode cX3_faultAt 4 = .ok (.iload_n 1, 1) := by decide +kernel
theorem dX3_faultAt_5 : decode cX3_faultAt 5 = .ok (.iaload, 1) := by decide +kernel
theorem dX3_faultAt_6 : decode cX3_faultAt 6 = .ok (.ifCond .ge 5, 3) := by decide +kernel
theorem dX3_faultAt_9 : decode cX3_faultAt 9 = .ok (.iconst 1, 1) := by decide +kernel
theorem dX3_faultAt_10 : decode cX3_faultAt 10 = .ok (.ireturn, 1) := by decide +kernel
theorem dX3_faultAt_11 : decode cX3_faultAt 11 = .ok (.aload_n 0, 1) := by decide +kernel
theorem dX3_faultAt_12 : decode cX3_faultAt 12 = .ok (.getfield 16, 3) := by decide +kernel
theorem dX3_faultAt_15 : decode cX3_faultAt 15 = .ok (.iload_n 1, 1) := by decide +kernel
theorem dX3_faultAt_16 : decode cX3_faultAt 16 = .ok (.iaload, 1) := by decide +kernel
theorem dX3_faultAt_17 : decode cX3_faultAt 17 = .ok (.iload_n 2, 1) := by decide +kernel
theorem dX3_faultAt_18 : decode cX3_faultAt 18 = .ok (.if_icmp .eq 5, 3) := by decide +kernel
theorem dX3_faultAt_21 : decode cX3_faultAt 21 = .ok (.iconst 3, 1) := by decide +kernel
theorem dX3_faultAt_22 : decode cX3_faultAt 22 = .ok (.ireturn, 1) := by decide +kernel
theorem dX3_faultAt_23 : decode cX3_faultAt 23 = .ok (.lload_n 3, 1) := by decide +kernel
theorem dX3_faultAt_24 : decode cX3_faultAt 24 = .ok (.lconst 0, 1) := by decide +kernel
theorem dX3_faultAt_25 : decode cX3_faultAt 25 = .ok (.lcmp, 1) := by decide +kernel
theorem dX3_faultAt_26 : decode cX3_faultAt 26 = .ok (.ifCond .lt 15, 3) := by decide +kernel
theorem dX3_faultAt_29 : decode cX3_faultAt 29 = .ok (.lload_n 3, 1) := by decide +kernel
theorem dX3_faultAt_30 : decode cX3_faultAt 30 = .ok (.aload_n 0, 1) := by decide +kernel
theorem dX3_faultAt_31 : decode cX3_faultAt 31 = .ok (.getfield 20, 3) := by decide +kernel
theorem dX3_faultAt_34 : decode cX3_faultAt 34 = .ok (.iload_n 1, 1) := by decide +kernel
theorem dX3_faultAt_35 : decode cX3_faultAt 35 = .ok (.iaload, 1) := by decide +kernel
theorem dX3_faultAt_36 : decode cX3_faultAt 36 = .ok (.i2l, 1) := by decide +kernel
theorem dX3_faultAt_37 : decode cX3_faultAt 37 = .ok (.lcmp, 1) := by decide +kernel
theorem dX3_faultAt_38 : decode cX3_faultAt 38 = .ok (.ifCond .lt 7, 3) := by decide +kernel
theorem dX3_faultAt_41 : decode cX3_faultAt 41 = .ok (.iconst 2, 1) := by decide +kernel
theorem dX3_faultAt_42 : decode cX3_faultAt 42 = .ok (.goto 4, 3) := by decide +kernel
theorem dX3_faultAt_45 : decode cX3_faultAt 45 = .ok (.iconst 0, 1) := by decide +kernel
theorem dX3_faultAt_46 : decode cX3_faultAt 46 = .ok (.ireturn, 1) := by decide +kernel
theorem dX3_faultOfPair_0 : decode cX3_faultOfPair 0 = .ok (.iload_n 3, 1) := by decide +kernel
theorem dX3_faultOfPair_1 : decode cX3_faultOfPair 1 = .ok (.i2l, 1) := by decide +kernel
theorem dX3_faultOfPair_2 : decode cX3_faultOfPair 2 = .ok (.ldc2_w 29, 3) := by decide +kernel
theorem dX3_faultOfPair_5 : decode cX3_faultOfPair 5 = .ok (.iload 4, 2) := by decide +kernel
theorem dX3_faultOfPair_7 : decode cX3_faultOfPair 7 = .ok (.i2l, 1) := by decide +kernel
theorem dX3_faultOfPair_8 : decode cX3_faultOfPair 8 = .ok (.lmul, 1) := by decide +kernel
theorem dX3_faultOfPair_9 : decode cX3_faultOfPair 9 = .ok (.ladd, 1) := by decide +kernel
theorem dX3_faultOfPair_10 : decode cX3_faultOfPair 10 = .ok (.lstore 5, 2) := by decide +kernel
theorem dX3_faultOfPair_12 : decode cX3_faultOfPair 12 = .ok (.aload_n 0, 1) := by decide +kernel
theorem dX3_faultOfPair_13 : decode cX3_faultOfPair 13 = .ok (.iload_n 1, 1) := by decide +kernel
theorem dX3_faultOfPair_14 : decode cX3_faultOfPair 14 = .ok (.iload_n 2, 1) := by decide +kernel
theorem dX3_faultOfPair_15 : decode cX3_faultOfPair 15 = .ok (.lload 5, 2) := by decide +kernel
theorem dX3_faultOfPair_17 : decode cX3_faultOfPair 17 = .ok (.invokevirtual 31, 3) := by decide +kernel
theorem dX3_faultOfPair_20 : decode cX3_faultOfPair 20 = .ok (.istore 7, 2) := by decide +kernel
theorem dX3_faultOfPair_22 : decode cX3_faultOfPair 22 = .ok (.iload 7, 2) := by decide +kernel
theorem dX3_faultOfPair_24 : decode cX3_faultOfPair 24 = .ok (.ifCond .eq 8, 3) := by decide +kernel
theorem dX3_faultOfPair_27 : decode cX3_faultOfPair 27 = .ok (.iload 7, 2) := by decide +kernel
theorem dX3_faultOfPair_29 : decode cX3_faultOfPair 29 = .ok (.goto 13, 3) := by decide +kernel
theorem dX3_faultOfPair_32 : decode cX3_faultOfPair 32 = .ok (.aload_n 0, 1) := by decide +kernel
theorem dX3_faultOfPair_33 : decode cX3_faultOfPair 33 = .ok (.iload_n 1, 1) := by decide +kernel
theorem dX3_faultOfPair_34 : decode cX3_faultOfPair 34 = .ok (.iload_n 2, 1) := by decide +kernel
theorem dX3_faultOfPair_35 : decode cX3_faultOfPair 35 = .ok (.lload 5, 2) := by decide +kernel
theorem dX3_faultOfPair_37 : decode cX3_faultOfPair 37 = .ok (.lconst 1, 1) := by decide +kernel
theorem dX3_faultOfPair_38 : decode cX3_faultOfPair 38 = .ok (.ladd, 1) := by decide +kernel
theorem dX3_faultOfPair_39 : decode cX3_faultOfPair 39 = .ok (.invokevirtual 31, 3) := by decide +kernel
theorem dX3_faultOfPair_42 : decode cX3_faultOfPair 42 = .ok (.ireturn, 1) := by decide +kernel
theorem dX3_cell_0 : decode cX3_cell 0 = .ok (.aload_n 0, 1) := by decide +kernel
theorem dX3_cell_1 : decode cX3_cell 1 = .ok (.getfield 11, 3) := by decide +kernel
theorem dX3_cell_4 : decode cX3_cell 4 = .ok (.iload_n 1, 1) := by decide +kernel
theorem dX3_cell_5 : decode cX3_cell 5 = .ok (.aaload, 1) := by decide +kernel
theorem dX3_cell_6 : decode cX3_cell 6 = .ok (.iload_n 2, 1) := by decide +kernel
theorem dX3_cell_7 : decode cX3_cell 7 = .ok (.iaload, 1) := by decide +kernel
theorem dX3_cell_8 : decode cX3_cell 8 = .ok (.ireturn, 1) := by decide +kernel
theorem dX3_put_0 : decode cX3_put 0 = .ok (.aload_n 0, 1) := by decide +kernel
theorem dX3_put_1 : decode cX3_put 1 = .ok (.getfield 16, 3) := by decide +kernel
theorem dX3_put_4 : decode cX3_put 4 = .ok (.iload_n 1, 1) := by decide +kernel
theorem dX3_put_5 : decode cX3_put 5 = .ok (.iaload, 1) := by decide +kernel
theorem dX3_put_6 : decode cX3_put 6 = .ok (.lookupswitch 52 #[(0, 26), (1, 39)], 26) := by decide +kernel
theorem dX3_put_32 : decode cX3_put 32 = .ok (.aload_n 0, 1) := by decide +kernel
theorem dX3_put_33 : decode cX3_put 33 = .ok (.getfield 11, 3) := by decide +kernel
theorem dX3_put_36 : decode cX3_put 36 = .ok (.iload_n 1, 1) := by decide +kernel
theorem dX3_put_37 : decode cX3_put 37 = .ok (.aaload, 1) := by decide +kernel
theorem dX3_put_38 : decode cX3_put 38 = .ok (.iload_n 2, 1) := by decide +kernel
theorem dX3_put_39 : decode cX3_put 39 = .ok (.iload_n 3, 1) := by decide +kernel
theorem dX3_put_40 : decode cX3_put 40 = .ok (.i2b, 1) := by decide +kernel
theorem dX3_put_41 : decode cX3_put 41 = .ok (.iastore, 1) := by decide +kernel
theorem dX3_put_42 : decode cX3_put 42 = .ok (.goto 25, 3) := by decide +kernel
theorem dX3_put_45 : decode cX3_put 45 = .ok (.aload_n 0, 1) := by decide +kernel
theorem dX3_put_46 : decode cX3_put 46 = .ok (.getfield 11, 3) := by decide +kernel
theorem dX3_put_49 : decode cX3_put 49 = .ok (.iload_n 1, 1) := by decide +kernel
theorem dX3_put_50 : decode cX3_put 50 = .ok (.aaload, 1) := by decide +kernel
theorem dX3_put_51 : decode cX3_put 51 = .ok (.iload_n 2, 1) := by decide +kernel
theorem dX3_put_52 : decode cX3_put 52 = .ok (.iload_n 3, 1) := by decide +kernel
theorem dX3_put_53 : decode cX3_put 53 = .ok (.i2s, 1) := by decide +kernel
theorem dX3_put_54 : decode cX3_put 54 = .ok (.iastore, 1) := by decide +kernel
theorem dX3_put_55 : decode cX3_put 55 = .ok (.goto 12, 3) := by decide +kernel
theorem dX3_put_58 : decode cX3_put 58 = .ok (.aload_n 0, 1) := by decide +kernel
theorem dX3_put_59 : decode cX3_put 59 = .ok (.getfield 11, 3) := by decide +kernel
theorem dX3_put_62 : decode cX3_put 62 = .ok (.iload_n 1, 1) := by decide +kernel
theorem dX3_put_63 : decode cX3_put 63 = .ok (.aaload, 1) := by decide +kernel
theorem dX3_put_64 : decode cX3_put 64 = .ok (.iload_n 2, 1) := by decide +kernel
theorem dX3_put_65 : decode cX3_put 65 = .ok (.iload_n 3, 1) := by decide +kernel
theorem dX3_put_66 : decode cX3_put 66 = .ok (.iastore, 1) := by decide +kernel
theorem dX3_put_67 : decode cX3_put 67 = .ok (.return_, 1) := by decide +kernel
theorem dX4_init_0 : decode cX4_init 0 = .ok (.aload_n 0, 1) := by decide +kernel
theorem dX4_init_1 : decode cX4_init 1 = .ok (.invokespecial 3, 3) := by decide +kernel
theorem dX4_init_4 : decode cX4_init 4 = .ok (.aload_n 0, 1) := by decide +kernel
theorem dX4_init_5 : decode cX4_init 5 = .ok (.bipush 12, 2) := by decide +kernel
theorem dX4_init_7 : decode cX4_init 7 = .ok (.newarray .int, 2) := by decide +kernel
theorem dX4_init_9 : decode cX4_init 9 = .ok (.putfield 9, 3) := by decide +kernel
theorem dX4_init_12 : decode cX4_init 12 = .ok (.aload_n 0, 1) := by decide +kernel
theorem dX4_init_13 : decode cX4_init 13 = .ok (.bipush 25, 2) := by decide +kernel
theorem dX4_init_15 : decode cX4_init 15 = .ok (.newarray .int, 2) := by decide +kernel
theorem dX4_init_17 : decode cX4_init 17 = .ok (.putfield 15, 3) := by decide +kernel
theorem dX4_init_20 : decode cX4_init 20 = .ok (.aload_n 0, 1) := by decide +kernel
theorem dX4_init_21 : decode cX4_init 21 = .ok (.iconst 5, 1) := by decide +kernel
theorem dX4_init_22 : decode cX4_init 22 = .ok (.newarray .int, 2) := by decide +kernel
theorem dX4_init_24 : decode cX4_init 24 = .ok (.putfield 18, 3) := by decide +kernel
theorem dX4_init_27 : decode cX4_init 27 = .ok (.aload_n 0, 1) := by decide +kernel
theorem dX4_init_28 : decode cX4_init 28 = .ok (.iconst 5, 1) := by decide +kernel
theorem dX4_init_29 : decode cX4_init 29 = .ok (.newarray .int, 2) := by decide +kernel
theorem dX4_init_31 : decode cX4_init 31 = .ok (.putfield 21, 3) := by decide +kernel
theorem dX4_init_34 : decode cX4_init 34 = .ok (.aload_n 0, 1) := by decide +kernel
theorem dX4_init_35 : decode cX4_init 35 = .ok (.bipush 10, 2) := by decide +kernel
theorem dX4_init_37 : decode cX4_init 37 = .ok (.putfield 24, 3) := by decide +kernel
theorem dX4_init_40 : decode cX4_init 40 = .ok (.return_, 1) := by decide +kernel
theorem dX4_clear_0 : decode cX4_clear 0 = .ok (.aload_n 0, 1) := by decide +kernel
theorem dX4_clear_1 : decode cX4_clear 1 = .ok (.iconst 0, 1) := by decide +kernel
theorem dX4_clear_2 : decode cX4_clear 2 = .ok (.putfield 28, 3) := by decide +kernel
theorem dX4_clear_5 : decode cX4_clear 5 = .ok (.aload_n 0, 1) := by decide +kernel
theorem dX4_clear_6 : decode cX4_clear 6 = .ok (.iconst 0, 1) := by decide +kernel
theorem dX4_clear_7 : decode cX4_clear 7 = .ok (.putfield 31, 3) := by decide +kernel
theorem dX4_clear_10 : decode cX4_clear 10 = .ok (.aload_n 0, 1) := by decide +kernel
theorem dX4_clear_11 : decode cX4_clear 11 = .ok (.bipush 10, 2) := by decide +kernel
theorem dX4_clear_13 : decode cX4_clear 13 = .ok (.putfield 24, 3) := by decide +kernel
theorem dX4_clear_16 : decode cX4_clear 16 = .ok (.aload_n 0, 1) := by decide +kernel
theorem dX4_clear_17 : decode cX4_clear 17 = .ok (.iconst 0, 1) := by decide +kernel
theorem dX4_clear_18 : decode cX4_clear 18 = .ok (.putfield 34, 3) := by decide +kernel
theorem dX4_clear_21 : decode cX4_clear 21 = .ok (.return_, 1) := by decide +kernel
theorem dX4_become_0 : decode cX4_become 0 = .ok (.aload_n 1, 1) := by decide +kernel
theorem dX4_become_1 : decode cX4_become 1 = .ok (.getfield 9, 3) := by decide +kernel
theorem dX4_become_4 : decode cX4_become 4 = .ok (.iconst 0, 1) := by decide +kernel
theorem dX4_become_5 : decode cX4_become 5 = .ok (.aload_n 0, 1) := by decide +kernel
theorem dX4_become_6 : decode cX4_become 6 = .ok (.getfield 9, 3) := by decide +kernel
theorem dX4_become_9 : decode cX4_become 9 = .ok (.iconst 0, 1) := by decide +kernel
theorem dX4_become_10 : decode cX4_become 10 = .ok (.aload_n 0, 1) := by decide +kernel
theorem dX4_become_11 : decode cX4_become 11 = .ok (.getfield 9, 3) := by decide +kernel
theorem dX4_become_14 : decode cX4_become 14 = .ok (.arraylength, 1) := by decide +kernel
theorem dX4_become_15 : decode cX4_become 15 = .ok (.invokestatic 37, 3) := by decide +kernel
theorem dX4_become_18 : decode cX4_become 18 = .ok (.aload_n 1, 1) := by decide +kernel
theorem dX4_become_19 : decode cX4_become 19 = .ok (.getfield 15, 3) := by decide +kernel
theorem dX4_become_22 : decode cX4_become 22 = .ok (.iconst 0, 1) := by decide +kernel
theorem dX4_become_23 : decode cX4_become 23 = .ok (.aload_n 0, 1) := by decide +kernel
theorem dX4_become_24 : decode cX4_become 24 = .ok (.getfield 15, 3) := by decide +kernel
theorem dX4_become_27 : decode cX4_become 27 = .ok (.iconst 0, 1) := by decide +kernel
theorem dX4_become_28 : decode cX4_become 28 = .ok (.aload_n 0, 1) := by decide +kernel
theorem dX4_become_29 : decode cX4_become 29 = .ok (.getfield 15, 3) := by decide +kernel
theorem dX4_become_32 : decode cX4_become 32 = .ok (.arraylength, 1) := by decide +kernel
theorem dX4_become_33 : decode cX4_become 33 = .ok (.invokestatic 37, 3) := by decide +kernel
theorem dX4_become_36 : decode cX4_become 36 = .ok (.aload_n 1, 1) := by decide +kernel
theorem dX4_become_37 : decode cX4_become 37 = .ok (.getfield 18, 3) := by decide +kernel
theorem dX4_become_40 : decode cX4_become 40 = .ok (.iconst 0, 1) := by decide +kernel
theorem dX4_become_41 : decode cX4_become 41 = .ok (.aload_n 0, 1) := by decide +kernel
theorem dX4_become_42 : decode cX4_become 42 = .ok (.getfield 18, 3) := by decide +kernel
theorem dX4_become_45 : decode cX4_become 45 = .ok (.iconst 0, 1) := by decide +kernel
theorem dX4_become_46 : decode cX4_become 46 = .ok (.aload_n 0, 1) := by decide +kernel
theorem dX4_become_47 : decode cX4_become 47 = .ok (.getfield 18, 3) := by decide +kernel
theorem dX4_become_50 : decode cX4_become 50 = .ok (.arraylength, 1) := by decide +kernel
theorem dX4_become_51 : decode cX4_become 51 = .ok (.invokestatic 37, 3) := by decide +kernel
theorem dX4_become_54 : decode cX4_become 54 = .ok (.aload_n 1, 1) := by decide +kernel
theorem dX4_become_55 : decode cX4_become 55 = .ok (.getfield 21, 3) := by decide +kernel
theorem dX4_become_58 : decode cX4_become 58 = .ok (.iconst 0, 1) := by decide +kernel
theorem dX4_become_59 : decode cX4_become 59 = .ok (.aload_n 0, 1) := by decide +kernel
theorem dX4_become_60 : decode cX4_become 60 = .ok (.getfield 21, 3) := by decide +kernel
theorem dX4_become_63 : decode cX4_become 63 = .ok (.iconst 0, 1) := by decide +kernel
theorem dX4_become_64 : decode cX4_become 64 = .ok (.aload_n 0, 1) := by decide +kernel
theorem dX4_become_65 : decode cX4_become 65 = .ok (.getfield 21, 3) := by decide +kernel
theorem dX4_become_68 : decode cX4_become 68 = .ok (.arraylength, 1) := by decide +kernel
theorem dX4_become_69 : decode cX4_become 69 = .ok (.invokestatic 37, 3) := by decide +kernel
theorem dX4_become_72 : decode cX4_become 72 = .ok (.aload_n 0, 1) := by decide +kernel
theorem dX4_become_73 : decode cX4_become 73 = .ok (.aload_n 1, 1) := by decide +kernel
theorem dX4_become_74 : decode cX4_become 74 = .ok (.getfield 28, 3) := by decide +kernel
theorem dX4_become_77 : decode cX4_become 77 = .ok (.putfield 28, 3) := by decide +kernel
theorem dX4_become_80 : decode cX4_become 80 = .ok (.aload_n 0, 1) := by decide +kernel
theorem dX4_become_81 : decode cX4_become 81 = .ok (.aload_n 1, 1) := by decide +kernel
theorem dX4_become_82 : decode cX4_become 82 = .ok (.getfield 31, 3) := by decide +kernel
theorem dX4_become_85 : decode cX4_become 85 = .ok (.putfield 31, 3) := by decide +kernel
theorem dX4_become_88 : decode cX4_become 88 = .ok (.aload_n 0, 1) := by decide +kernel
theorem dX4_become_89 : decode cX4_become 89 = .ok (.aload_n 1, 1) := by decide +kernel
theorem dX4_become_90 : decode cX4_become 90 = .ok (.getfield 24, 3) := by decide +kernel
theorem dX4_become_93 : decode cX4_become 93 = .ok (.putfield 24, 3) := by decide +kernel
theorem dX4_become_96 : decode cX4_become 96 = .ok (.aload_n 0, 1) := by decide +kernel
theorem dX4_become_97 : decode cX4_become 97 = .ok (.aload_n 1, 1) := by decide +kernel
theorem dX4_become_98 : decode cX4_become 98 = .ok (.getfield 34, 3) := by decide +kernel
theorem dX4_become_101 : decode cX4_become 101 = .ok (.putfield 34, 3) := by decide +kernel
theorem dX4_become_104 : decode cX4_become 104 = .ok (.return_, 1) := by decide +kernel
theorem dX4_ofHouse_0 : decode cX4_ofHouse 0 = .ok (.aload_n 0, 1) := by decide +kernel
theorem dX4_ofHouse_1 : decode cX4_ofHouse 1 = .ok (.getfield 9, 3) := by decide +kernel
theorem dX4_ofHouse_4 : decode cX4_ofHouse 4 = .ok (.iload_n 1, 1) := by decide +kernel
theorem dX4_ofHouse_5 : decode cX4_ofHouse 5 = .ok (.iconst 1, 1) := by decide +kernel
theorem dX4_ofHouse_6 : decode cX4_ofHouse 6 = .ok (.isub, 1) := by decide +kernel
theorem dX4_ofHouse_7 : decode cX4_ofHouse 7 = .ok (.iconst 2, 1) := by decide +kernel
theorem dX4_ofHouse_8 : decode cX4_ofHouse 8 = .ok (.imul, 1) := by decide +kernel
theorem dX4_ofHouse_9 : decode cX4_ofHouse 9 = .ok (.iload_n 2, 1) := by decide +kernel
theorem dX4_ofHouse_10 : decode cX4_ofHouse 10 = .ok (.iadd, 1) := by decide +kernel
theorem dX4_ofHouse_11 : decode cX4_ofHouse 11 = .ok (.iaload, 1) := by decide +kernel
theorem dX4_ofHouse_12 : decode cX4_ofHouse 12 = .ok (.ireturn, 1) := by decide +kernel
theorem dX4_ofOrder_0 : decode cX4_ofOrder 0 = .ok (.aload_n 0, 1) := by decide +kernel
theorem dX4_ofOrder_1 : decode cX4_ofOrder 1 = .ok (.getfield 15, 3) := by decide +kernel
theorem dX4_ofOrder_4 : decode cX4_ofOrder 4 = .ok (.iload_n 1, 1) := by decide +kernel
theorem dX4_ofOrder_5 : decode cX4_ofOrder 5 = .ok (.iconst 5, 1) := by decide +kernel
theorem dX4_ofOrder_6 : decode cX4_ofOrder 6 = .ok (.imul, 1) := by decide +kernel
theorem dX4_ofOrder_7 : decode cX4_ofOrder 7 = .ok (.iload_n 2, 1) := by decide +kernel
theorem dX4_ofOrder_8 : decode cX4_ofOrder 8 = .ok (.iadd, 1) := by decide +kernel
theorem dX4_ofOrder_9 : decode cX4_ofOrder 9 = .ok (.iaload, 1) := by decide +kernel
theorem dX4_ofOrder_10 : decode cX4_ofOrder 10 = .ok (.ireturn, 1) := by decide +kernel
theorem dX4_sum_0 : decode cX4_sum 0 = .ok (.iconst 0, 1) := by decide +kernel
theorem dX4_sum_1 : decode cX4_sum 1 = .ok (.istore_n 2, 1) := by decide +kernel
theorem dX4_sum_2 : decode cX4_sum 2 = .ok (.iconst 0, 1) := by decide +kernel
theorem dX4_sum_3 : decode cX4_sum 3 = .ok (.istore_n 3, 1) := by decide +kernel
theorem dX4_sum_4 : decode cX4_sum 4 = .ok (.iload_n 3, 1) := by decide +kernel
theorem dX4_sum_5 : decode cX4_sum 5 = .ok (.aload_n 0, 1) := by decide +kernel
theorem dX4_sum_6 : decode cX4_sum 6 = .ok (.getfield 31, 3) := by decide +kernel
theorem dX4_sum_9 : decode cX4_sum 9 = .ok (.if_icmp .ge 18, 3) := by decide +kernel
theorem dX4_sum_12 : decode cX4_sum 12 = .ok (.iload_n 2, 1) := by decide +kernel
theorem dX4_sum_13 : decode cX4_sum 13 = .ok (.aload_n 0, 1) := by decide +kernel
theorem dX4_sum_14 : decode cX4_sum 14 = .ok (.iload_n 3, 1) := by decide +kernel
theorem dX4_sum_15 : decode cX4_sum 15 = .ok (.iload_n 1, 1) := by decide +kernel
theorem dX4_sum_16 : decode cX4_sum 16 = .ok (.invokevirtual 43, 3) := by decide +kernel
theorem dX4_sum_19 : decode cX4_sum 19 = .ok (.iadd, 1) := by decide +kernel
theorem dX4_sum_20 : decode cX4_sum 20 = .ok (.istore_n 2, 1) := by decide +kernel
theorem dX4_sum_21 : decode cX4_sum 21 = .ok (.iinc 3 1, 3) := by decide +kernel
theorem dX4_sum_24 : decode cX4_sum 24 = .ok (.goto (-20), 3) := by decide +kernel
theorem dX4_sum_27 : decode cX4_sum 27 = .ok (.iload_n 2, 1) := by decide +kernel
theorem dX4_sum_28 : decode cX4_sum 28 = .ok (.ireturn, 1) := by decide +kernel
theorem dX4_penniesOf_0 : decode cX4_penniesOf 0 = .ok (.iconst 0, 1) := by decide +kernel
theorem dX4_penniesOf_1 : decode cX4_penniesOf 1 = .ok (.istore_n 2, 1) := by decide +kernel
theorem dX4_penniesOf_2 : decode cX4_penniesOf 2 = .ok (.iconst 0, 1) := by decide +kernel
theorem dX4_penniesOf_3 : decode cX4_penniesOf 3 = .ok (.istore_n 3, 1) := by decide +kernel
theorem dX4_penniesOf_4 : decode cX4_penniesOf 4 = .ok (.iload_n 3, 1) := by decide +kernel
theorem dX4_penniesOf_5 : decode cX4_penniesOf 5 = .ok (.aload_n 0, 1) := by decide +kernel
theorem dX4_penniesOf_6 : decode cX4_penniesOf 6 = .ok (.getfield 31, 3) := by decide +kernel
theorem dX4_penniesOf_9 : decode cX4_penniesOf 9 = .ok (.if_icmp .ge 27, 3) := by decide +kernel
theorem dX4_penniesOf_12 : decode cX4_penniesOf 12 = .ok (.iload_n 1, 1) := by decide +kernel
theorem dX4_penniesOf_13 : decode cX4_penniesOf 13 = .ok (.iload_n 3, 1) := by decide +kernel
theorem dX4_penniesOf_14 : decode cX4_penniesOf 14 = .ok (.ishr, 1) := by decide +kernel
theorem dX4_penniesOf_15 : decode cX4_penniesOf 15 = .ok (.iconst 1, 1) := by decide +kernel
theorem dX4_penniesOf_16 : decode cX4_penniesOf 16 = .ok (.iand, 1) := by decide +kernel
theorem dX4_penniesOf_17 : decode cX4_penniesOf 17 = .ok (.iconst 1, 1) := by decide +kernel
theorem dX4_penniesOf_18 : decode cX4_penniesOf 18 = .ok (.if_icmp .ne 12, 3) := by decide +kernel
theorem dX4_penniesOf_21 : decode cX4_penniesOf 21 = .ok (.iload_n 2, 1) := by decide +kernel
theorem dX4_penniesOf_22 : decode cX4_penniesOf 22 = .ok (.aload_n 0, 1) := by decide +kernel
theorem dX4_penniesOf_23 : decode cX4_penniesOf 23 = .ok (.iload_n 3, 1) := by decide +kernel
theorem dX4_penniesOf_24 : decode cX4_penniesOf 24 = .ok (.iconst 3, 1) := by decide +kernel
theorem dX4_penniesOf_25 : decode cX4_penniesOf 25 = .ok (.invokevirtual 43, 3) := by decide +kernel
theorem dX4_penniesOf_28 : decode cX4_penniesOf 28 = .ok (.iadd, 1) := by decide +kernel
theorem dX4_penniesOf_29 : decode cX4_penniesOf 29 = .ok (.istore_n 2, 1) := by decide +kernel
theorem dX4_penniesOf_30 : decode cX4_penniesOf 30 = .ok (.iinc 3 1, 3) := by decide +kernel
theorem dX4_penniesOf_33 : decode cX4_penniesOf 33 = .ok (.goto (-29), 3) := by decide +kernel
theorem dX4_penniesOf_36 : decode cX4_penniesOf 36 = .ok (.iload_n 2, 1) := by decide +kernel
theorem dX4_penniesOf_37 : decode cX4_penniesOf 37 = .ok (.ireturn, 1) := by decide +kernel
theorem dX4_minutesBetween_0 : decode cX4_minutesBetween 0 = .ok (.iload_n 1, 1) := by decide +kernel
theorem dX4_minutesBetween_1 : decode cX4_minutesBetween 1 = .ok (.iload_n 2, 1) := by decide +kernel
theorem dX4_minutesBetween_2 : decode cX4_minutesBetween 2 = .ok (.if_icmp .ge 7, 3) := by decide +kernel
theorem dX4_minutesBetween_5 : decode cX4_minutesBetween 5 = .ok (.iconst 1, 1) := by decide +kernel
theorem dX4_minutesBetween_6 : decode cX4_minutesBetween 6 = .ok (.goto 4, 3) := by decide +kernel
theorem dX4_minutesBetween_9 : decode cX4_minutesBetween 9 = .ok (.iconst 2, 1) := by decide +kernel
theorem dX4_minutesBetween_10 : decode cX4_minutesBetween 10 = .ok (.istore 4, 2) := by decide +kernel
theorem dX4_minutesBetween_12 : decode cX4_minutesBetween 12 = .ok (.iconst 0, 1) := by decide +kernel
theorem dX4_minutesBetween_13 : decode cX4_minutesBetween 13 = .ok (.istore 5, 2) := by decide +kernel
theorem dX4_minutesBetween_15 : decode cX4_minutesBetween 15 = .ok (.iload_n 1, 1) := by decide +kernel
theorem dX4_minutesBetween_16 : decode cX4_minutesBetween 16 = .ok (.iload_n 2, 1) := by decide +kernel
theorem dX4_minutesBetween_17 : decode cX4_minutesBetween 17 = .ok (.invokestatic 47, 3) := by decide +kernel
theorem dX4_minutesBetween_20 : decode cX4_minutesBetween 20 = .ok (.iconst 1, 1) := by decide +kernel
theorem dX4_minutesBetween_21 : decode cX4_minutesBetween 21 = .ok (.iadd, 1) := by decide +kernel
theorem dX4_minutesBetween_22 : decode cX4_minutesBetween 22 = .ok (.istore 6, 2) := by decide +kernel
theorem dX4_minutesBetween_24 : decode cX4_minutesBetween 24 = .ok (.iload 6, 2) := by decide +kernel
theorem dX4_minutesBetween_26 : decode cX4_minutesBetween 26 = .ok (.iload_n 1, 1) := by decide +kernel
theorem dX4_minutesBetween_27 : decode cX4_minutesBetween 27 = .ok (.iload_n 2, 1) := by decide +kernel
theorem dX4_minutesBetween_28 : decode cX4_minutesBetween 28 = .ok (.invokestatic 52, 3) := by decide +kernel
theorem dX4_minutesBetween_31 : decode cX4_minutesBetween 31 = .ok (.if_icmp .gt 55, 3) := by decide +kernel
theorem dX4_minutesBetween_34 : decode cX4_minutesBetween 34 = .ok (.iload_n 3, 1) := by decide +kernel
theorem dX4_minutesBetween_35 : decode cX4_minutesBetween 35 = .ok (.ifCond .eq 19, 3) := by decide +kernel
theorem dX4_minutesBetween_38 : decode cX4_minutesBetween 38 = .ok (.aload_n 0, 1) := by decide +kernel
theorem dX4_minutesBetween_39 : decode cX4_minutesBetween 39 = .ok (.iload 6, 2) := by decide +kernel
theorem dX4_minutesBetween_41 : decode cX4_minutesBetween 41 = .ok (.iconst 1, 1) := by decide +kernel
theorem dX4_minutesBetween_42 : decode cX4_minutesBetween 42 = .ok (.invokevirtual 55, 3) := by decide +kernel
theorem dX4_minutesBetween_45 : decode cX4_minutesBetween 45 = .ok (.iload 4, 2) := by decide +kernel
theorem dX4_minutesBetween_47 : decode cX4_minutesBetween 47 = .ok (.if_icmp .ne 7, 3) := by decide +kernel
theorem dX4_minutesBetween_50 : decode cX4_minutesBetween 50 = .ok (.iconst 1, 1) := by decide +kernel
theorem dX4_minutesBetween_51 : decode cX4_minutesBetween 51 = .ok (.goto 4, 3) := by decide +kernel
theorem dX4_minutesBetween_54 : decode cX4_minutesBetween 54 = .ok (.iconst 0, 1) := by decide +kernel
theorem dX4_minutesBetween_55 : decode cX4_minutesBetween 55 = .ok (.istore 7, 2) := by decide +kernel
theorem dX4_minutesBetween_57 : decode cX4_minutesBetween 57 = .ok (.iload 5, 2) := by decide +kernel
theorem dX4_minutesBetween_59 : decode cX4_minutesBetween 59 = .ok (.aload_n 0, 1) := by decide +kernel
theorem dX4_minutesBetween_60 : decode cX4_minutesBetween 60 = .ok (.iload 6, 2) := by decide +kernel
theorem dX4_minutesBetween_62 : decode cX4_minutesBetween 62 = .ok (.iconst 0, 1) := by decide +kernel
theorem dX4_minutesBetween_63 : decode cX4_minutesBetween 63 = .ok (.invokevirtual 55, 3) := by decide +kernel
theorem dX4_minutesBetween_66 : decode cX4_minutesBetween 66 = .ok (.iload 7, 2) := by decide +kernel
theorem dX4_minutesBetween_68 : decode cX4_minutesBetween 68 = .ok (.ifCond .eq 7, 3) := by decide +kernel
theorem dX4_minutesBetween_71 : decode cX4_minutesBetween 71 = .ok (.iconst 2, 1) := by decide +kernel
theorem dX4_minutesBetween_72 : decode cX4_minutesBetween 72 = .ok (.goto 4, 3) := by decide +kernel
theorem dX4_minutesBetween_75 : decode cX4_minutesBetween 75 = .ok (.iconst 1, 1) := by decide +kernel
theorem dX4_minutesBetween_76 : decode cX4_minutesBetween 76 = .ok (.imul, 1) := by decide +kernel
theorem dX4_minutesBetween_77 : decode cX4_minutesBetween 77 = .ok (.iadd, 1) := by decide +kernel
theorem dX4_minutesBetween_78 : decode cX4_minutesBetween 78 = .ok (.istore 5, 2) := by decide +kernel
theorem dX4_minutesBetween_80 : decode cX4_minutesBetween 80 = .ok (.iinc 6 1, 3) := by decide +kernel
theorem dX4_minutesBetween_83 : decode cX4_minutesBetween 83 = .ok (.goto (-59), 3) := by decide +kernel
theorem dX4_minutesBetween_86 : decode cX4_minutesBetween 86 = .ok (.iload 5, 2) := by decide +kernel
theorem dX4_minutesBetween_88 : decode cX4_minutesBetween 88 = .ok (.ireturn, 1) := by decide +kernel
theorem dX5_init_0 : decode cX5_init 0 = .ok (.aload_n 0, 1) := by decide +kernel
theorem dX5_init_1 : decode cX5_init 1 = .ok (.invokespecial 3, 3) := by decide +kernel
theorem dX5_init_4 : decode cX5_init 4 = .ok (.aload_n 0, 1) := by decide +kernel
theorem dX5_init_5 : decode cX5_init 5 = .ok (.sipush 160, 3) := by decide +kernel
theorem dX5_init_8 : decode cX5_init 8 = .ok (.newarray .byte, 2) := by decide +kernel
theorem dX5_init_10 : decode cX5_init 10 = .ok (.putfield 9, 3) := by decide +kernel
theorem dX5_init_13 : decode cX5_init 13 = .ok (.return_, 1) := by decide +kernel
theorem dX6_init_0 : decode cX6_init 0 = .ok (.aload_n 0, 1) := by decide +kernel
theorem dX6_init_1 : decode cX6_init 1 = .ok (.invokespecial 3, 3) := by decide +kernel
theorem dX6_init_4 : decode cX6_init 4 = .ok (.aload_n 0, 1) := by decide +kernel
theorem dX6_init_5 : decode cX6_init 5 = .ok (.iconst 5, 1) := by decide +kernel
theorem dX6_init_6 : decode cX6_init 6 = .ok (.newarray .int, 2) := by decide +kernel
theorem dX6_init_8 : decode cX6_init 8 = .ok (.putfield 9, 3) := by decide +kernel
theorem dX6_init_11 : decode cX6_init 11 = .ok (.aload_n 0, 1) := by decide +kernel
theorem dX6_init_12 : decode cX6_init 12 = .ok (.iconst 5, 1) := by decide +kernel
theorem dX6_init_13 : decode cX6_init 13 = .ok (.newarray .int, 2) := by decide +kernel
theorem dX6_init_15 : decode cX6_init 15 = .ok (.putfield 15, 3) := by decide +kernel
theorem dX6_init_18 : decode cX6_init 18 = .ok (.aload_n 0, 1) := by decide +kernel
theorem dX6_init_19 : decode cX6_init 19 = .ok (.iconst 5, 1) := by decide +kernel
theorem dX6_init_20 : decode cX6_init 20 = .ok (.newarray .int, 2) := by decide +kernel
theorem dX6_init_22 : decode cX6_init 22 = .ok (.putfield 18, 3) := by decide +kernel
theorem dX6_init_25 : decode cX6_init 25 = .ok (.aload_n 0, 1) := by decide +kernel
theorem dX6_init_26 : decode cX6_init 26 = .ok (.iconst 5, 1) := by decide +kernel
theorem dX6_init_27 : decode cX6_init 27 = .ok (.newarray .int, 2) := by decide +kernel
theorem dX6_init_29 : decode cX6_init 29 = .ok (.putfield 21, 3) := by decide +kernel
theorem dX6_init_32 : decode cX6_init 32 = .ok (.aload_n 0, 1) := by decide +kernel
theorem dX6_init_33 : decode cX6_init 33 = .ok (.iconst 5, 1) := by decide +kernel
theorem dX6_init_34 : decode cX6_init 34 = .ok (.newarray .int, 2) := by decide +kernel
theorem dX6_init_36 : decode cX6_init 36 = .ok (.putfield 24, 3) := by decide +kernel
theorem dX6_init_39 : decode cX6_init 39 = .ok (.aload_n 0, 1) := by decide +kernel
theorem dX6_init_40 : decode cX6_init 40 = .ok (.aload_n 1, 1) := by decide +kernel
theorem dX6_init_41 : decode cX6_init 41 = .ok (.putfield 27, 3) := by decide +kernel
theorem dX6_init_44 : decode cX6_init 44 = .ok (.return_, 1) := by decide +kernel
theorem dX6_take_0 : decode cX6_take 0 = .ok (.aload_n 0, 1) := by decide +kernel
theorem dX6_take_1 : decode cX6_take 1 = .ok (.aload_n 0, 1) := by decide +kernel
theorem dX6_take_2 : decode cX6_take 2 = .ok (.getfield 27, 3) := by decide +kernel
theorem dX6_take_5 : decode cX6_take 5 = .ok (.getfield 31, 3) := by decide +kernel
theorem dX6_take_8 : decode cX6_take 8 = .ok (.putfield 37, 3) := by decide +kernel
theorem dX6_take_11 : decode cX6_take 11 = .ok (.aload_n 0, 1) := by decide +kernel
theorem dX6_take_12 : decode cX6_take 12 = .ok (.iload_n 2, 1) := by decide +kernel
theorem dX6_take_13 : decode cX6_take 13 = .ok (.putfield 38, 3) := by decide +kernel
theorem dX6_take_16 : decode cX6_take 16 = .ok (.aload_n 0, 1) := by decide +kernel
theorem dX6_take_17 : decode cX6_take 17 = .ok (.aload_n 0, 1) := by decide +kernel
theorem dX6_take_18 : decode cX6_take 18 = .ok (.aload_n 0, 1) := by decide +kernel
theorem dX6_take_19 : decode cX6_take 19 = .ok (.getfield 27, 3) := by decide +kernel
theorem dX6_take_22 : decode cX6_take 22 = .ok (.getfield 41, 3) := by decide +kernel
theorem dX6_take_25 : decode cX6_take 25 = .ok (.iload_n 1, 1) := by decide +kernel
theorem dX6_take_26 : decode cX6_take 26 = .ok (.aload_n 0, 1) := by decide +kernel
theorem dX6_take_27 : decode cX6_take 27 = .ok (.getfield 9, 3) := by decide +kernel
theorem dX6_take_30 : decode cX6_take 30 = .ok (.invokevirtual 44, 3) := by decide +kernel
theorem dX6_take_33 : decode cX6_take 33 = .ok (.putfield 48, 3) := by decide +kernel
theorem dX6_take_36 : decode cX6_take 36 = .ok (.aload_n 0, 1) := by decide +kernel
theorem dX6_take_37 : decode cX6_take 37 = .ok (.aload_n 0, 1) := by decide +kernel
theorem dX6_take_38 : decode cX6_take 38 = .ok (.getfield 27, 3) := by decide +kernel
theorem dX6_take_41 : decode cX6_take 41 = .ok (.getfield 51, 3) := by decide +kernel
theorem dX6_take_44 : decode cX6_take 44 = .ok (.iload_n 1, 1) := by decide +kernel
theorem dX6_take_45 : decode cX6_take 45 = .ok (.aload_n 0, 1) := by decide +kernel
theorem dX6_take_46 : decode cX6_take 46 = .ok (.getfield 15, 3) := by decide +kernel
theorem dX6_take_49 : decode cX6_take 49 = .ok (.invokevirtual 44, 3) := by decide +kernel
theorem dX6_take_52 : decode cX6_take 52 = .ok (.pop, 1) := by decide +kernel
theorem dX6_take_53 : decode cX6_take 53 = .ok (.return_, 1) := by decide +kernel
theorem dX6_pick_0 : decode cX6_pick 0 = .ok (.iconst 0, 1) := by decide +kernel
theorem dX6_pick_1 : decode cX6_pick 1 = .ok (.istore 4, 2) := by decide +kernel
theorem dX6_pick_3 : decode cX6_pick 3 = .ok (.iconst 0, 1) := by decide +kernel
theorem dX6_pick_4 : decode cX6_pick 4 = .ok (.istore 5, 2) := by decide +kernel
theorem dX6_pick_6 : decode cX6_pick 6 = .ok (.iload 5, 2) := by decide +kernel
theorem dX6_pick_8 : decode cX6_pick 8 = .ok (.aload_n 0, 1) := by decide +kernel
theorem dX6_pick_9 : decode cX6_pick 9 = .ok (.getfield 27, 3) := by decide +kernel
theorem dX6_pick_12 : decode cX6_pick 12 = .ok (.getfield 54, 3) := by decide +kernel
theorem dX6_pick_15 : decode cX6_pick 15 = .ok (.if_icmp .ge 32, 3) := by decide +kernel
theorem dX6_pick_18 : decode cX6_pick 18 = .ok (.iload_n 2, 1) := by decide +kernel
theorem dX6_pick_19 : decode cX6_pick 19 = .ok (.aload_n 1, 1) := by decide +kernel
theorem dX6_pick_20 : decode cX6_pick 20 = .ok (.iload 5, 2) := by decide +kernel
theorem dX6_pick_22 : decode cX6_pick 22 = .ok (.iaload, 1) := by decide +kernel
theorem dX6_pick_23 : decode cX6_pick 23 = .ok (.ishr, 1) := by decide +kernel
theorem dX6_pick_24 : decode cX6_pick 24 = .ok (.iconst 1, 1) := by decide +kernel
theorem dX6_pick_25 : decode cX6_pick 25 = .ok (.iand, 1) := by decide +kernel
theorem dX6_pick_26 : decode cX6_pick 26 = .ok (.iconst 1, 1) := by decide +kernel
theorem dX6_pick_27 : decode cX6_pick 27 = .ok (.if_icmp .ne 14, 3) := by decide +kernel
theorem dX6_pick_30 : decode cX6_pick 30 = .ok (.aload_n 3, 1) := by decide +kernel
theorem dX6_pick_31 : decode cX6_pick 31 = .ok (.iload 4, 2) := by decide +kernel
theorem dX6_pick_33 : decode cX6_pick 33 = .ok (.aload_n 1, 1) := by decide +kernel
theorem dX6_pick_34 : decode cX6_pick 34 = .ok (.iload 5, 2) := by decide +kernel
theorem dX6_pick_36 : decode cX6_pick 36 = .ok (.iaload, 1) := by decide +kernel
theorem dX6_pick_37 : decode cX6_pick 37 = .ok (.iastore, 1) := by decide +kernel
theorem dX6_pick_38 : decode cX6_pick 38 = .ok (.iinc 4 1, 3) := by decide +kernel
theorem dX6_pick_41 : decode cX6_pick 41 = .ok (.iinc 5 1, 3) := by decide +kernel
theorem dX6_pick_44 : decode cX6_pick 44 = .ok (.goto (-38), 3) := by decide +kernel
theorem dX6_pick_47 : decode cX6_pick 47 = .ok (.iload 4, 2) := by decide +kernel
theorem dX6_pick_49 : decode cX6_pick 49 = .ok (.ireturn, 1) := by decide +kernel
theorem dX6_ride_0 : decode cX6_ride 0 = .ok (.iconst 0, 1) := by decide +kernel
theorem dX6_ride_1 : decode cX6_ride 1 = .ok (.istore_n 1, 1) := by decide +kernel
theorem dX6_ride_2 : decode cX6_ride 2 = .ok (.iconst 0, 1) := by decide +kernel
theorem dX6_ride_3 : decode cX6_ride 3 = .ok (.istore_n 2, 1) := by decide +kernel
theorem dX6_ride_4 : decode cX6_ride 4 = .ok (.iload_n 2, 1) := by decide +kernel
theorem dX6_ride_5 : decode cX6_ride 5 = .ok (.aload_n 0, 1) := by decide +kernel
theorem dX6_ride_6 : decode cX6_ride 6 = .ok (.getfield 48, 3) := by decide +kernel
theorem dX6_ride_9 : decode cX6_ride 9 = .ok (.if_icmp .ge 26, 3) := by decide +kernel
theorem dX6_ride_12 : decode cX6_ride 12 = .ok (.iload_n 1, 1) := by decide +kernel
theorem dX6_ride_13 : decode cX6_ride 13 = .ok (.aload_n 0, 1) := by decide +kernel
theorem dX6_ride_14 : decode cX6_ride 14 = .ok (.getfield 27, 3) := by decide +kernel
theorem dX6_ride_17 : decode cX6_ride 17 = .ok (.aload_n 0, 1) := by decide +kernel
theorem dX6_ride_18 : decode cX6_ride 18 = .ok (.getfield 9, 3) := by decide +kernel
theorem dX6_ride_21 : decode cX6_ride 21 = .ok (.iload_n 2, 1) := by decide +kernel
theorem dX6_ride_22 : decode cX6_ride 22 = .ok (.iaload, 1) := by decide +kernel
theorem dX6_ride_23 : decode cX6_ride 23 = .ok (.iconst 2, 1) := by decide +kernel
theorem dX6_ride_24 : decode cX6_ride 24 = .ok (.invokevirtual 57, 3) := by decide +kernel
theorem dX6_ride_27 : decode cX6_ride 27 = .ok (.iadd, 1) := by decide +kernel
theorem dX6_ride_28 : decode cX6_ride 28 = .ok (.istore_n 1, 1) := by decide +kernel
theorem dX6_ride_29 : decode cX6_ride 29 = .ok (.iinc 2 1, 3) := by decide +kernel
theorem dX6_ride_32 : decode cX6_ride 32 = .ok (.goto (-28), 3) := by decide +kernel
theorem dX6_ride_35 : decode cX6_ride 35 = .ok (.aload_n 0, 1) := by decide +kernel
theorem dX6_ride_36 : decode cX6_ride 36 = .ok (.iconst 0, 1) := by decide +kernel
theorem dX6_ride_37 : decode cX6_ride 37 = .ok (.putfield 61, 3) := by decide +kernel
theorem dX6_ride_40 : decode cX6_ride 40 = .ok (.aload_n 0, 1) := by decide +kernel
theorem dX6_ride_41 : decode cX6_ride 41 = .ok (.iconst 0, 1) := by decide +kernel
theorem dX6_ride_42 : decode cX6_ride 42 = .ok (.putfield 64, 3) := by decide +kernel
theorem dX6_ride_45 : decode cX6_ride 45 = .ok (.iconst 0, 1) := by decide +kernel
theorem dX6_ride_46 : decode cX6_ride 46 = .ok (.istore_n 2, 1) := by decide +kernel
theorem dX6_ride_47 : decode cX6_ride 47 = .ok (.iconst 0, 1) := by decide +kernel
theorem dX6_ride_48 : decode cX6_ride 48 = .ok (.istore_n 3, 1) := by decide +kernel
theorem dX6_ride_49 : decode cX6_ride 49 = .ok (.iload_n 3, 1) := by decide +kernel
theorem dX6_ride_50 : decode cX6_ride 50 = .ok (.aload_n 0, 1) := by decide +kernel
theorem dX6_ride_51 : decode cX6_ride 51 = .ok (.getfield 48, 3) := by decide +kernel
theorem dX6_ride_54 : decode cX6_ride 54 = .ok (.if_icmp .ge 129, 3) := by decide +kernel
theorem dX6_ride_57 : decode cX6_ride 57 = .ok (.aload_n 0, 1) := by decide +kernel
theorem dX6_ride_58 : decode cX6_ride 58 = .ok (.getfield 9, 3) := by decide +kernel
theorem dX6_ride_61 : decode cX6_ride 61 = .ok (.iload_n 3, 1) := by decide +kernel
theorem dX6_ride_62 : decode cX6_ride 62 = .ok (.iaload, 1) := by decide +kernel
theorem dX6_ride_63 : decode cX6_ride 63 = .ok (.istore 4, 2) := by decide +kernel
theorem dX6_ride_65 : decode cX6_ride 65 = .ok (.aload_n 0, 1) := by decide +kernel
theorem dX6_ride_66 : decode cX6_ride 66 = .ok (.dup, 1) := by decide +kernel
theorem dX6_ride_67 : decode cX6_ride 67 = .ok (.getfield 61, 3) := by decide +kernel
theorem dX6_ride_70 : decode cX6_ride 70 = .ok (.aload_n 0, 1) := by decide +kernel
theorem dX6_ride_71 : decode cX6_ride 71 = .ok (.getfield 27, 3) := by decide +kernel
theorem dX6_ride_74 : decode cX6_ride 74 = .ok (.iload_n 2, 1) := by decide +kernel
theorem dX6_ride_75 : decode cX6_ride 75 = .ok (.aload_n 0, 1) := by decide +kernel
theorem dX6_ride_76 : decode cX6_ride 76 = .ok (.getfield 27, 3) := by decide +kernel
theorem dX6_ride_79 : decode cX6_ride 79 = .ok (.iload 4, 2) := by decide +kernel
theorem dX6_ride_81 : decode cX6_ride 81 = .ok (.iconst 1, 1) := by decide +kernel
theorem dX6_ride_82 : decode cX6_ride 82 = .ok (.invokevirtual 57, 3) := by decide +kernel
theorem dX6_ride_85 : decode cX6_ride 85 = .ok (.iload_n 1, 1) := by decide +kernel
theorem dX6_ride_86 : decode cX6_ride 86 = .ok (.aload_n 0, 1) := by decide +kernel
theorem dX6_ride_87 : decode cX6_ride 87 = .ok (.getfield 37, 3) := by decide +kernel
theorem dX6_ride_90 : decode cX6_ride 90 = .ok (.if_icmp .le 7, 3) := by decide +kernel
theorem dX6_ride_93 : decode cX6_ride 93 = .ok (.iconst 1, 1) := by decide +kernel
theorem dX6_ride_94 : decode cX6_ride 94 = .ok (.goto 4, 3) := by decide +kernel
theorem dX6_ride_97 : decode cX6_ride 97 = .ok (.iconst 0, 1) := by decide +kernel
theorem dX6_ride_98 : decode cX6_ride 98 = .ok (.invokevirtual 67, 3) := by decide +kernel
theorem dX6_ride_101 : decode cX6_ride 101 = .ok (.iadd, 1) := by decide +kernel
theorem dX6_ride_102 : decode cX6_ride 102 = .ok (.putfield 61, 3) := by decide +kernel
theorem dX6_ride_105 : decode cX6_ride 105 = .ok (.aload_n 0, 1) := by decide +kernel
theorem dX6_ride_106 : decode cX6_ride 106 = .ok (.dup, 1) := by decide +kernel
theorem dX6_ride_107 : decode cX6_ride 107 = .ok (.getfield 64, 3) := by decide +kernel
theorem dX6_ride_110 : decode cX6_ride 110 = .ok (.aload_n 0, 1) := by decide +kernel
theorem dX6_ride_111 : decode cX6_ride 111 = .ok (.getfield 27, 3) := by decide +kernel
theorem dX6_ride_114 : decode cX6_ride 114 = .ok (.iload 4, 2) := by decide +kernel
theorem dX6_ride_116 : decode cX6_ride 116 = .ok (.iconst 0, 1) := by decide +kernel
theorem dX6_ride_117 : decode cX6_ride 117 = .ok (.invokevirtual 57, 3) := by decide +kernel
theorem dX6_ride_120 : decode cX6_ride 120 = .ok (.iconst 3, 1) := by decide +kernel
theorem dX6_ride_121 : decode cX6_ride 121 = .ok (.if_icmp .ne 7, 3) := by decide +kernel
theorem dX6_ride_124 : decode cX6_ride 124 = .ok (.iconst 2, 1) := by decide +kernel
theorem dX6_ride_125 : decode cX6_ride 125 = .ok (.goto 4, 3) := by decide +kernel
theorem dX6_ride_128 : decode cX6_ride 128 = .ok (.iconst 1, 1) := by decide +kernel
theorem dX6_ride_129 : decode cX6_ride 129 = .ok (.iadd, 1) := by decide +kernel
theorem dX6_ride_130 : decode cX6_ride 130 = .ok (.putfield 64, 3) := by decide +kernel
theorem dX6_ride_133 : decode cX6_ride 133 = .ok (.aload_n 0, 1) := by decide +kernel
theorem dX6_ride_134 : decode cX6_ride 134 = .ok (.getfield 18, 3) := by decide +kernel
theorem dX6_ride_137 : decode cX6_ride 137 = .ok (.iload_n 3, 1) := by decide +kernel
theorem dX6_ride_138 : decode cX6_ride 138 = .ok (.aload_n 0, 1) := by decide +kernel
theorem dX6_ride_139 : decode cX6_ride 139 = .ok (.getfield 38, 3) := by decide +kernel
theorem dX6_ride_142 : decode cX6_ride 142 = .ok (.aload_n 0, 1) := by decide +kernel
theorem dX6_ride_143 : decode cX6_ride 143 = .ok (.getfield 61, 3) := by decide +kernel
theorem dX6_ride_146 : decode cX6_ride 146 = .ok (.iadd, 1) := by decide +kernel
theorem dX6_ride_147 : decode cX6_ride 147 = .ok (.aload_n 0, 1) := by decide +kernel
theorem dX6_ride_148 : decode cX6_ride 148 = .ok (.getfield 64, 3) := by decide +kernel
theorem dX6_ride_151 : decode cX6_ride 151 = .ok (.iadd, 1) := by decide +kernel
theorem dX6_ride_152 : decode cX6_ride 152 = .ok (.iastore, 1) := by decide +kernel
theorem dX6_ride_153 : decode cX6_ride 153 = .ok (.iload_n 1, 1) := by decide +kernel
theorem dX6_ride_154 : decode cX6_ride 154 = .ok (.aload_n 0, 1) := by decide +kernel
theorem dX6_ride_155 : decode cX6_ride 155 = .ok (.getfield 27, 3) := by decide +kernel
theorem dX6_ride_158 : decode cX6_ride 158 = .ok (.iload 4, 2) := by decide +kernel
theorem dX6_ride_160 : decode cX6_ride 160 = .ok (.iconst 2, 1) := by decide +kernel
theorem dX6_ride_161 : decode cX6_ride 161 = .ok (.invokevirtual 57, 3) := by decide +kernel
theorem dX6_ride_164 : decode cX6_ride 164 = .ok (.isub, 1) := by decide +kernel
theorem dX6_ride_165 : decode cX6_ride 165 = .ok (.istore_n 1, 1) := by decide +kernel
theorem dX6_ride_166 : decode cX6_ride 166 = .ok (.aload_n 0, 1) := by decide +kernel
theorem dX6_ride_167 : decode cX6_ride 167 = .ok (.getfield 27, 3) := by decide +kernel
theorem dX6_ride_170 : decode cX6_ride 170 = .ok (.iload 4, 2) := by decide +kernel
theorem dX6_ride_172 : decode cX6_ride 172 = .ok (.iconst 1, 1) := by decide +kernel
theorem dX6_ride_173 : decode cX6_ride 173 = .ok (.invokevirtual 57, 3) := by decide +kernel
theorem dX6_ride_176 : decode cX6_ride 176 = .ok (.istore_n 2, 1) := by decide +kernel
theorem dX6_ride_177 : decode cX6_ride 177 = .ok (.iinc 3 1, 3) := by decide +kernel
theorem dX6_ride_180 : decode cX6_ride 180 = .ok (.goto (-131), 3) := by decide +kernel
theorem dX6_ride_183 : decode cX6_ride 183 = .ok (.aload_n 0, 1) := by decide +kernel
theorem dX6_ride_184 : decode cX6_ride 184 = .ok (.dup, 1) := by decide +kernel
theorem dX6_ride_185 : decode cX6_ride 185 = .ok (.getfield 61, 3) := by decide +kernel
theorem dX6_ride_188 : decode cX6_ride 188 = .ok (.aload_n 0, 1) := by decide +kernel
theorem dX6_ride_189 : decode cX6_ride 189 = .ok (.getfield 27, 3) := by decide +kernel
theorem dX6_ride_192 : decode cX6_ride 192 = .ok (.iload_n 2, 1) := by decide +kernel
theorem dX6_ride_193 : decode cX6_ride 193 = .ok (.iconst 0, 1) := by decide +kernel
theorem dX6_ride_194 : decode cX6_ride 194 = .ok (.iload_n 1, 1) := by decide +kernel
theorem dX6_ride_195 : decode cX6_ride 195 = .ok (.aload_n 0, 1) := by decide +kernel
theorem dX6_ride_196 : decode cX6_ride 196 = .ok (.getfield 37, 3) := by decide +kernel
theorem dX6_ride_199 : decode cX6_ride 199 = .ok (.if_icmp .le 7, 3) := by decide +kernel
theorem dX6_ride_202 : decode cX6_ride 202 = .ok (.iconst 1, 1) := by decide +kernel
theorem dX6_ride_203 : decode cX6_ride 203 = .ok (.goto 4, 3) := by decide +kernel
theorem dX6_ride_206 : decode cX6_ride 206 = .ok (.iconst 0, 1) := by decide +kernel
theorem dX6_ride_207 : decode cX6_ride 207 = .ok (.invokevirtual 67, 3) := by decide +kernel
theorem dX6_ride_210 : decode cX6_ride 210 = .ok (.iadd, 1) := by decide +kernel
theorem dX6_ride_211 : decode cX6_ride 211 = .ok (.putfield 61, 3) := by decide +kernel
theorem dX6_ride_214 : decode cX6_ride 214 = .ok (.return_, 1) := by decide +kernel
theorem dX6_stow_0 : decode cX6_stow 0 = .ok (.aload_n 0, 1) := by decide +kernel
theorem dX6_stow_1 : decode cX6_stow 1 = .ok (.iconst 0, 1) := by decide +kernel
theorem dX6_stow_2 : decode cX6_stow 2 = .ok (.putfield 71, 3) := by decide +kernel
theorem dX6_stow_5 : decode cX6_stow 5 = .ok (.iconst 0, 1) := by decide +kernel
theorem dX6_stow_6 : decode cX6_stow 6 = .ok (.istore_n 1, 1) := by decide +kernel
theorem dX6_stow_7 : decode cX6_stow 7 = .ok (.iconst 0, 1) := by decide +kernel
theorem dX6_stow_8 : decode cX6_stow 8 = .ok (.istore_n 2, 1) := by decide +kernel
theorem dX6_stow_9 : decode cX6_stow 9 = .ok (.iconst 0, 1) := by decide +kernel
theorem dX6_stow_10 : decode cX6_stow 10 = .ok (.istore_n 3, 1) := by decide +kernel
theorem dX6_stow_11 : decode cX6_stow 11 = .ok (.iconst 0, 1) := by decide +kernel
theorem dX6_stow_12 : decode cX6_stow 12 = .ok (.istore 4, 2) := by decide +kernel
theorem dX6_stow_14 : decode cX6_stow 14 = .ok (.iload 4, 2) := by decide +kernel
theorem dX6_stow_16 : decode cX6_stow 16 = .ok (.aload_n 0, 1) := by decide +kernel
theorem dX6_stow_17 : decode cX6_stow 17 = .ok (.getfield 48, 3) := by decide +kernel
theorem dX6_stow_20 : decode cX6_stow 20 = .ok (.if_icmp .ge 98, 3) := by decide +kernel
theorem dX6_stow_23 : decode cX6_stow 23 = .ok (.aload_n 0, 1) := by decide +kernel
theorem dX6_stow_24 : decode cX6_stow 24 = .ok (.getfield 15, 3) := by decide +kernel
theorem dX6_stow_27 : decode cX6_stow 27 = .ok (.iload 4, 2) := by decide +kernel
theorem dX6_stow_29 : decode cX6_stow 29 = .ok (.iaload, 1) := by decide +kernel
theorem dX6_stow_30 : decode cX6_stow 30 = .ok (.istore 5, 2) := by decide +kernel
theorem dX6_stow_32 : decode cX6_stow 32 = .ok (.aload_n 0, 1) := by decide +kernel
theorem dX6_stow_33 : decode cX6_stow 33 = .ok (.getfield 27, 3) := by decide +kernel
theorem dX6_stow_36 : decode cX6_stow 36 = .ok (.iload 5, 2) := by decide +kernel
theorem dX6_stow_38 : decode cX6_stow 38 = .ok (.iconst 0, 1) := by decide +kernel
theorem dX6_stow_39 : decode cX6_stow 39 = .ok (.invokevirtual 57, 3) := by decide +kernel
theorem dX6_stow_42 : decode cX6_stow 42 = .ok (.istore 6, 2) := by decide +kernel
theorem dX6_stow_44 : decode cX6_stow 44 = .ok (.iload_n 3, 1) := by decide +kernel
theorem dX6_stow_45 : decode cX6_stow 45 = .ok (.ifCond .ne 14, 3) := by decide +kernel
theorem dX6_stow_48 : decode cX6_stow 48 = .ok (.iload 6, 2) := by decide +kernel
theorem dX6_stow_50 : decode cX6_stow 50 = .ok (.iconst 1, 1) := by decide +kernel
theorem dX6_stow_51 : decode cX6_stow 51 = .ok (.if_icmp .ne 21, 3) := by decide +kernel
theorem dX6_stow_54 : decode cX6_stow 54 = .ok (.iload_n 1, 1) := by decide +kernel
theorem dX6_stow_55 : decode cX6_stow 55 = .ok (.iconst 5, 1) := by decide +kernel
theorem dX6_stow_56 : decode cX6_stow 56 = .ok (.if_icmp .le 16, 3) := by decide +kernel
theorem dX6_stow_59 : decode cX6_stow 59 = .ok (.aload_n 0, 1) := by decide +kernel
theorem dX6_stow_60 : decode cX6_stow 60 = .ok (.dup, 1) := by decide +kernel
theorem dX6_stow_61 : decode cX6_stow 61 = .ok (.getfield 71, 3) := by decide +kernel
theorem dX6_stow_64 : decode cX6_stow 64 = .ok (.iconst 1, 1) := by decide +kernel
theorem dX6_stow_65 : decode cX6_stow 65 = .ok (.iload 5, 2) := by decide +kernel
theorem dX6_stow_67 : decode cX6_stow 67 = .ok (.ishl, 1) := by decide +kernel
theorem dX6_stow_68 : decode cX6_stow 68 = .ok (.ior, 1) := by decide +kernel
theorem dX6_stow_69 : decode cX6_stow 69 = .ok (.putfield 71, 3) := by decide +kernel
theorem dX6_stow_72 : decode cX6_stow 72 = .ok (.aload_n 0, 1) := by decide +kernel
theorem dX6_stow_73 : decode cX6_stow 73 = .ok (.getfield 21, 3) := by decide +kernel
theorem dX6_stow_76 : decode cX6_stow 76 = .ok (.iload 5, 2) := by decide +kernel
theorem dX6_stow_78 : decode cX6_stow 78 = .ok (.iload_n 2, 1) := by decide +kernel
theorem dX6_stow_79 : decode cX6_stow 79 = .ok (.iastore, 1) := by decide +kernel
theorem dX6_stow_80 : decode cX6_stow 80 = .ok (.iload_n 2, 1) := by decide +kernel
theorem dX6_stow_81 : decode cX6_stow 81 = .ok (.iconst 1, 1) := by decide +kernel
theorem dX6_stow_82 : decode cX6_stow 82 = .ok (.iload 5, 2) := by decide +kernel
theorem dX6_stow_84 : decode cX6_stow 84 = .ok (.ishl, 1) := by decide +kernel
theorem dX6_stow_85 : decode cX6_stow 85 = .ok (.ior, 1) := by decide +kernel
theorem dX6_stow_86 : decode cX6_stow 86 = .ok (.istore_n 2, 1) := by decide +kernel
theorem dX6_stow_87 : decode cX6_stow 87 = .ok (.iload_n 1, 1) := by decide +kernel
theorem dX6_stow_88 : decode cX6_stow 88 = .ok (.aload_n 0, 1) := by decide +kernel
theorem dX6_stow_89 : decode cX6_stow 89 = .ok (.getfield 27, 3) := by decide +kernel
theorem dX6_stow_92 : decode cX6_stow 92 = .ok (.iload 5, 2) := by decide +kernel
theorem dX6_stow_94 : decode cX6_stow 94 = .ok (.iconst 2, 1) := by decide +kernel
theorem dX6_stow_95 : decode cX6_stow 95 = .ok (.invokevirtual 57, 3) := by decide +kernel
theorem dX6_stow_98 : decode cX6_stow 98 = .ok (.iadd, 1) := by decide +kernel
theorem dX6_stow_99 : decode cX6_stow 99 = .ok (.istore_n 1, 1) := by decide +kernel
theorem dX6_stow_100 : decode cX6_stow 100 = .ok (.iload 6, 2) := by decide +kernel
theorem dX6_stow_102 : decode cX6_stow 102 = .ok (.iconst 4, 1) := by decide +kernel
theorem dX6_stow_103 : decode cX6_stow 103 = .ok (.if_icmp .ne 7, 3) := by decide +kernel
