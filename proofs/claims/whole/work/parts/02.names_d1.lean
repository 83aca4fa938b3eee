theorem dX6_stow_106 : decode cX6_stow 106 = .ok (.iconst 1, 1) := by decide +kernel
theorem dX6_stow_107 : decode cX6_stow 107 = .ok (.goto 4, 3) := by decide +kernel
theorem dX6_stow_110 : decode cX6_stow 110 = .ok (.iconst 0, 1) := by decide +kernel
theorem dX6_stow_111 : decode cX6_stow 111 = .ok (.istore_n 3, 1) := by decide +kernel
theorem dX6_stow_112 : decode cX6_stow 112 = .ok (.iinc 4 1, 3) := by decide +kernel
theorem dX6_stow_115 : decode cX6_stow 115 = .ok (.goto (-101), 3) := by decide +kernel
theorem dX6_stow_118 : decode cX6_stow 118 = .ok (.return_, 1) := by decide +kernel
theorem dX6_stowLoose_0 : decode cX6_stowLoose 0 = .ok (.aload_n 0, 1) := by decide +kernel
theorem dX6_stowLoose_1 : decode cX6_stowLoose 1 = .ok (.iconst 0, 1) := by decide +kernel
theorem dX6_stowLoose_2 : decode cX6_stowLoose 2 = .ok (.putfield 71, 3) := by decide +kernel
theorem dX6_stowLoose_5 : decode cX6_stowLoose 5 = .ok (.aload_n 0, 1) := by decide +kernel
theorem dX6_stowLoose_6 : decode cX6_stowLoose 6 = .ok (.getfield 21, 3) := by decide +kernel
theorem dX6_stowLoose_9 : decode cX6_stowLoose 9 = .ok (.iconst 0, 1) := by decide +kernel
theorem dX6_stowLoose_10 : decode cX6_stowLoose 10 = .ok (.invokestatic 74, 3) := by decide +kernel
theorem dX6_stowLoose_13 : decode cX6_stowLoose 13 = .ok (.return_, 1) := by decide +kernel
theorem dX6_finish_0 : decode cX6_finish 0 = .ok (.iconst 0, 1) := by decide +kernel
theorem dX6_finish_1 : decode cX6_finish 1 = .ok (.istore_n 1, 1) := by decide +kernel
theorem dX6_finish_2 : decode cX6_finish 2 = .ok (.iconst 0, 1) := by decide +kernel
theorem dX6_finish_3 : decode cX6_finish 3 = .ok (.istore_n 2, 1) := by decide +kernel
theorem dX6_finish_4 : decode cX6_finish 4 = .ok (.iload_n 2, 1) := by decide +kernel
theorem dX6_finish_5 : decode cX6_finish 5 = .ok (.aload_n 0, 1) := by decide +kernel
theorem dX6_finish_6 : decode cX6_finish 6 = .ok (.getfield 48, 3) := by decide +kernel
theorem dX6_finish_9 : decode cX6_finish 9 = .ok (.if_icmp .ge 20, 3) := by decide +kernel
theorem dX6_finish_12 : decode cX6_finish 12 = .ok (.iload_n 1, 1) := by decide +kernel
theorem dX6_finish_13 : decode cX6_finish 13 = .ok (.iconst 1, 1) := by decide +kernel
theorem dX6_finish_14 : decode cX6_finish 14 = .ok (.aload_n 0, 1) := by decide +kernel
theorem dX6_finish_15 : decode cX6_finish 15 = .ok (.getfield 9, 3) := by decide +kernel
theorem dX6_finish_18 : decode cX6_finish 18 = .ok (.iload_n 2, 1) := by decide +kernel
theorem dX6_finish_19 : decode cX6_finish 19 = .ok (.iaload, 1) := by decide +kernel
theorem dX6_finish_20 : decode cX6_finish 20 = .ok (.ishl, 1) := by decide +kernel
theorem dX6_finish_21 : decode cX6_finish 21 = .ok (.ior, 1) := by decide +kernel
theorem dX6_finish_22 : decode cX6_finish 22 = .ok (.istore_n 1, 1) := by decide +kernel
theorem dX6_finish_23 : decode cX6_finish 23 = .ok (.iinc 2 1, 3) := by decide +kernel
theorem dX6_finish_26 : decode cX6_finish 26 = .ok (.goto (-22), 3) := by decide +kernel
theorem dX6_finish_29 : decode cX6_finish 29 = .ok (.aload_n 0, 1) := by decide +kernel
theorem dX6_finish_30 : decode cX6_finish 30 = .ok (.iconst 0, 1) := by decide +kernel
theorem dX6_finish_31 : decode cX6_finish 31 = .ok (.putfield 80, 3) := by decide +kernel
theorem dX6_finish_34 : decode cX6_finish 34 = .ok (.aload_n 0, 1) := by decide +kernel
theorem dX6_finish_35 : decode cX6_finish 35 = .ok (.aload_n 0, 1) := by decide +kernel
theorem dX6_finish_36 : decode cX6_finish 36 = .ok (.getfield 71, 3) := by decide +kernel
theorem dX6_finish_39 : decode cX6_finish 39 = .ok (.putfield 83, 3) := by decide +kernel
theorem dX6_finish_42 : decode cX6_finish 42 = .ok (.aload_n 0, 1) := by decide +kernel
theorem dX6_finish_43 : decode cX6_finish 43 = .ok (.iconst 0, 1) := by decide +kernel
theorem dX6_finish_44 : decode cX6_finish 44 = .ok (.putfield 86, 3) := by decide +kernel
theorem dX6_finish_47 : decode cX6_finish 47 = .ok (.iconst 0, 1) := by decide +kernel
theorem dX6_finish_48 : decode cX6_finish 48 = .ok (.istore_n 2, 1) := by decide +kernel
theorem dX6_finish_49 : decode cX6_finish 49 = .ok (.iload_n 2, 1) := by decide +kernel
theorem dX6_finish_50 : decode cX6_finish 50 = .ok (.aload_n 0, 1) := by decide +kernel
theorem dX6_finish_51 : decode cX6_finish 51 = .ok (.getfield 48, 3) := by decide +kernel
theorem dX6_finish_54 : decode cX6_finish 54 = .ok (.if_icmp .ge 132, 3) := by decide +kernel
theorem dX6_finish_57 : decode cX6_finish 57 = .ok (.aload_n 0, 1) := by decide +kernel
theorem dX6_finish_58 : decode cX6_finish 58 = .ok (.getfield 9, 3) := by decide +kernel
theorem dX6_finish_61 : decode cX6_finish 61 = .ok (.iload_n 2, 1) := by decide +kernel
theorem dX6_finish_62 : decode cX6_finish 62 = .ok (.iaload, 1) := by decide +kernel
theorem dX6_finish_63 : decode cX6_finish 63 = .ok (.istore_n 3, 1) := by decide +kernel
theorem dX6_finish_64 : decode cX6_finish 64 = .ok (.aload_n 0, 1) := by decide +kernel
theorem dX6_finish_65 : decode cX6_finish 65 = .ok (.dup, 1) := by decide +kernel
theorem dX6_finish_66 : decode cX6_finish 66 = .ok (.getfield 80, 3) := by decide +kernel
theorem dX6_finish_69 : decode cX6_finish 69 = .ok (.aload_n 0, 1) := by decide +kernel
theorem dX6_finish_70 : decode cX6_finish 70 = .ok (.getfield 21, 3) := by decide +kernel
theorem dX6_finish_73 : decode cX6_finish 73 = .ok (.iload_n 3, 1) := by decide +kernel
theorem dX6_finish_74 : decode cX6_finish 74 = .ok (.iaload, 1) := by decide +kernel
theorem dX6_finish_75 : decode cX6_finish 75 = .ok (.iload_n 1, 1) := by decide +kernel
theorem dX6_finish_76 : decode cX6_finish 76 = .ok (.iand, 1) := by decide +kernel
theorem dX6_finish_77 : decode cX6_finish 77 = .ok (.invokestatic 89, 3) := by decide +kernel
theorem dX6_finish_80 : decode cX6_finish 80 = .ok (.iadd, 1) := by decide +kernel
theorem dX6_finish_81 : decode cX6_finish 81 = .ok (.putfield 80, 3) := by decide +kernel
theorem dX6_finish_84 : decode cX6_finish 84 = .ok (.iload_n 1, 1) := by decide +kernel
theorem dX6_finish_85 : decode cX6_finish 85 = .ok (.iconst 1, 1) := by decide +kernel
theorem dX6_finish_86 : decode cX6_finish 86 = .ok (.iload_n 3, 1) := by decide +kernel
theorem dX6_finish_87 : decode cX6_finish 87 = .ok (.ishl, 1) := by decide +kernel
theorem dX6_finish_88 : decode cX6_finish 88 = .ok (.iconst (-1), 1) := by decide +kernel
theorem dX6_finish_89 : decode cX6_finish 89 = .ok (.ixor, 1) := by decide +kernel
theorem dX6_finish_90 : decode cX6_finish 90 = .ok (.iand, 1) := by decide +kernel
theorem dX6_finish_91 : decode cX6_finish 91 = .ok (.istore_n 1, 1) := by decide +kernel
theorem dX6_finish_92 : decode cX6_finish 92 = .ok (.aload_n 0, 1) := by decide +kernel
theorem dX6_finish_93 : decode cX6_finish 93 = .ok (.getfield 24, 3) := by decide +kernel
theorem dX6_finish_96 : decode cX6_finish 96 = .ok (.iload_n 3, 1) := by decide +kernel
theorem dX6_finish_97 : decode cX6_finish 97 = .ok (.aload_n 0, 1) := by decide +kernel
theorem dX6_finish_98 : decode cX6_finish 98 = .ok (.getfield 18, 3) := by decide +kernel
theorem dX6_finish_101 : decode cX6_finish 101 = .ok (.iload_n 2, 1) := by decide +kernel
theorem dX6_finish_102 : decode cX6_finish 102 = .ok (.iaload, 1) := by decide +kernel
theorem dX6_finish_103 : decode cX6_finish 103 = .ok (.aload_n 0, 1) := by decide +kernel
theorem dX6_finish_104 : decode cX6_finish 104 = .ok (.getfield 80, 3) := by decide +kernel
theorem dX6_finish_107 : decode cX6_finish 107 = .ok (.iadd, 1) := by decide +kernel
theorem dX6_finish_108 : decode cX6_finish 108 = .ok (.iastore, 1) := by decide +kernel
theorem dX6_finish_109 : decode cX6_finish 109 = .ok (.aload_n 0, 1) := by decide +kernel
theorem dX6_finish_110 : decode cX6_finish 110 = .ok (.getfield 27, 3) := by decide +kernel
theorem dX6_finish_113 : decode cX6_finish 113 = .ok (.iload_n 3, 1) := by decide +kernel
theorem dX6_finish_114 : decode cX6_finish 114 = .ok (.iconst 0, 1) := by decide +kernel
theorem dX6_finish_115 : decode cX6_finish 115 = .ok (.invokevirtual 57, 3) := by decide +kernel
theorem dX6_finish_118 : decode cX6_finish 118 = .ok (.iconst 2, 1) := by decide +kernel
theorem dX6_finish_119 : decode cX6_finish 119 = .ok (.if_icmp .ne 31, 3) := by decide +kernel
theorem dX6_finish_122 : decode cX6_finish 122 = .ok (.aload_n 0, 1) := by decide +kernel
theorem dX6_finish_123 : decode cX6_finish 123 = .ok (.getfield 24, 3) := by decide +kernel
theorem dX6_finish_126 : decode cX6_finish 126 = .ok (.iload_n 3, 1) := by decide +kernel
theorem dX6_finish_127 : decode cX6_finish 127 = .ok (.iaload, 1) := by decide +kernel
theorem dX6_finish_128 : decode cX6_finish 128 = .ok (.aload_n 0, 1) := by decide +kernel
theorem dX6_finish_129 : decode cX6_finish 129 = .ok (.getfield 38, 3) := by decide +kernel
theorem dX6_finish_132 : decode cX6_finish 132 = .ok (.isub, 1) := by decide +kernel
theorem dX6_finish_133 : decode cX6_finish 133 = .ok (.bipush 20, 2) := by decide +kernel
theorem dX6_finish_135 : decode cX6_finish 135 = .ok (.if_icmp .le 15, 3) := by decide +kernel
theorem dX6_finish_138 : decode cX6_finish 138 = .ok (.aload_n 0, 1) := by decide +kernel
theorem dX6_finish_139 : decode cX6_finish 139 = .ok (.dup, 1) := by decide +kernel
theorem dX6_finish_140 : decode cX6_finish 140 = .ok (.getfield 83, 3) := by decide +kernel
theorem dX6_finish_143 : decode cX6_finish 143 = .ok (.iconst 1, 1) := by decide +kernel
theorem dX6_finish_144 : decode cX6_finish 144 = .ok (.iload_n 3, 1) := by decide +kernel
theorem dX6_finish_145 : decode cX6_finish 145 = .ok (.ishl, 1) := by decide +kernel
theorem dX6_finish_146 : decode cX6_finish 146 = .ok (.ior, 1) := by decide +kernel
theorem dX6_finish_147 : decode cX6_finish 147 = .ok (.putfield 83, 3) := by decide +kernel
theorem dX6_finish_150 : decode cX6_finish 150 = .ok (.aload_n 0, 1) := by decide +kernel
theorem dX6_finish_151 : decode cX6_finish 151 = .ok (.getfield 24, 3) := by decide +kernel
theorem dX6_finish_154 : decode cX6_finish 154 = .ok (.iload_n 3, 1) := by decide +kernel
theorem dX6_finish_155 : decode cX6_finish 155 = .ok (.iaload, 1) := by decide +kernel
theorem dX6_finish_156 : decode cX6_finish 156 = .ok (.aload_n 0, 1) := by decide +kernel
theorem dX6_finish_157 : decode cX6_finish 157 = .ok (.getfield 27, 3) := by decide +kernel
theorem dX6_finish_160 : decode cX6_finish 160 = .ok (.iload_n 3, 1) := by decide +kernel
theorem dX6_finish_161 : decode cX6_finish 161 = .ok (.iconst 4, 1) := by decide +kernel
theorem dX6_finish_162 : decode cX6_finish 162 = .ok (.invokevirtual 57, 3) := by decide +kernel
theorem dX6_finish_165 : decode cX6_finish 165 = .ok (.if_icmp .le 15, 3) := by decide +kernel
theorem dX6_finish_168 : decode cX6_finish 168 = .ok (.aload_n 0, 1) := by decide +kernel
theorem dX6_finish_169 : decode cX6_finish 169 = .ok (.dup, 1) := by decide +kernel
theorem dX6_finish_170 : decode cX6_finish 170 = .ok (.getfield 86, 3) := by decide +kernel
theorem dX6_finish_173 : decode cX6_finish 173 = .ok (.iconst 1, 1) := by decide +kernel
theorem dX6_finish_174 : decode cX6_finish 174 = .ok (.iload_n 3, 1) := by decide +kernel
theorem dX6_finish_175 : decode cX6_finish 175 = .ok (.ishl, 1) := by decide +kernel
theorem dX6_finish_176 : decode cX6_finish 176 = .ok (.ior, 1) := by decide +kernel
theorem dX6_finish_177 : decode cX6_finish 177 = .ok (.putfield 86, 3) := by decide +kernel
theorem dX6_finish_180 : decode cX6_finish 180 = .ok (.iinc 2 1, 3) := by decide +kernel
theorem dX6_finish_183 : decode cX6_finish 183 = .ok (.goto (-134), 3) := by decide +kernel
theorem dX6_finish_186 : decode cX6_finish 186 = .ok (.aload_n 0, 1) := by decide +kernel
theorem dX6_finish_187 : decode cX6_finish 187 = .ok (.aload_n 0, 1) := by decide +kernel
theorem dX6_finish_188 : decode cX6_finish 188 = .ok (.getfield 38, 3) := by decide +kernel
theorem dX6_finish_191 : decode cX6_finish 191 = .ok (.aload_n 0, 1) := by decide +kernel
theorem dX6_finish_192 : decode cX6_finish 192 = .ok (.getfield 61, 3) := by decide +kernel
theorem dX6_finish_195 : decode cX6_finish 195 = .ok (.iadd, 1) := by decide +kernel
theorem dX6_finish_196 : decode cX6_finish 196 = .ok (.aload_n 0, 1) := by decide +kernel
theorem dX6_finish_197 : decode cX6_finish 197 = .ok (.getfield 64, 3) := by decide +kernel
theorem dX6_finish_200 : decode cX6_finish 200 = .ok (.iadd, 1) := by decide +kernel
theorem dX6_finish_201 : decode cX6_finish 201 = .ok (.aload_n 0, 1) := by decide +kernel
theorem dX6_finish_202 : decode cX6_finish 202 = .ok (.getfield 80, 3) := by decide +kernel
theorem dX6_finish_205 : decode cX6_finish 205 = .ok (.iadd, 1) := by decide +kernel
theorem dX6_finish_206 : decode cX6_finish 206 = .ok (.putfield 95, 3) := by decide +kernel
theorem dX6_finish_209 : decode cX6_finish 209 = .ok (.aload_n 0, 1) := by decide +kernel
theorem dX6_finish_210 : decode cX6_finish 210 = .ok (.aload_n 0, 1) := by decide +kernel
theorem dX6_finish_211 : decode cX6_finish 211 = .ok (.getfield 27, 3) := by decide +kernel
theorem dX6_finish_214 : decode cX6_finish 214 = .ok (.aload_n 0, 1) := by decide +kernel
theorem dX6_finish_215 : decode cX6_finish 215 = .ok (.invokevirtual 98, 3) := by decide +kernel
theorem dX6_finish_218 : decode cX6_finish 218 = .ok (.invokevirtual 102, 3) := by decide +kernel
theorem dX6_finish_221 : decode cX6_finish 221 = .ok (.putfield 105, 3) := by decide +kernel
theorem dX6_finish_224 : decode cX6_finish 224 = .ok (.return_, 1) := by decide +kernel
theorem dX6_paidBits_0 : decode cX6_paidBits 0 = .ok (.iconst 0, 1) := by decide +kernel
theorem dX6_paidBits_1 : decode cX6_paidBits 1 = .ok (.istore_n 1, 1) := by decide +kernel
theorem dX6_paidBits_2 : decode cX6_paidBits 2 = .ok (.iconst 0, 1) := by decide +kernel
theorem dX6_paidBits_3 : decode cX6_paidBits 3 = .ok (.istore_n 2, 1) := by decide +kernel
theorem dX6_paidBits_4 : decode cX6_paidBits 4 = .ok (.iload_n 2, 1) := by decide +kernel
theorem dX6_paidBits_5 : decode cX6_paidBits 5 = .ok (.aload_n 0, 1) := by decide +kernel
theorem dX6_paidBits_6 : decode cX6_paidBits 6 = .ok (.getfield 48, 3) := by decide +kernel
theorem dX6_paidBits_9 : decode cX6_paidBits 9 = .ok (.if_icmp .ge 20, 3) := by decide +kernel
theorem dX6_paidBits_12 : decode cX6_paidBits 12 = .ok (.iload_n 1, 1) := by decide +kernel
theorem dX6_paidBits_13 : decode cX6_paidBits 13 = .ok (.iconst 1, 1) := by decide +kernel
theorem dX6_paidBits_14 : decode cX6_paidBits 14 = .ok (.aload_n 0, 1) := by decide +kernel
theorem dX6_paidBits_15 : decode cX6_paidBits 15 = .ok (.getfield 9, 3) := by decide +kernel
theorem dX6_paidBits_18 : decode cX6_paidBits 18 = .ok (.iload_n 2, 1) := by decide +kernel
theorem dX6_paidBits_19 : decode cX6_paidBits 19 = .ok (.iaload, 1) := by decide +kernel
theorem dX6_paidBits_20 : decode cX6_paidBits 20 = .ok (.ishl, 1) := by decide +kernel
theorem dX6_paidBits_21 : decode cX6_paidBits 21 = .ok (.ior, 1) := by decide +kernel
theorem dX6_paidBits_22 : decode cX6_paidBits 22 = .ok (.istore_n 1, 1) := by decide +kernel
theorem dX6_paidBits_23 : decode cX6_paidBits 23 = .ok (.iinc 2 1, 3) := by decide +kernel
theorem dX6_paidBits_26 : decode cX6_paidBits 26 = .ok (.goto (-22), 3) := by decide +kernel
theorem dX6_paidBits_29 : decode cX6_paidBits 29 = .ok (.iload_n 1, 1) := by decide +kernel
theorem dX6_paidBits_30 : decode cX6_paidBits 30 = .ok (.aload_n 0, 1) := by decide +kernel
theorem dX6_paidBits_31 : decode cX6_paidBits 31 = .ok (.getfield 83, 3) := by decide +kernel
theorem dX6_paidBits_34 : decode cX6_paidBits 34 = .ok (.iconst (-1), 1) := by decide +kernel
theorem dX6_paidBits_35 : decode cX6_paidBits 35 = .ok (.ixor, 1) := by decide +kernel
theorem dX6_paidBits_36 : decode cX6_paidBits 36 = .ok (.iand, 1) := by decide +kernel
theorem dX6_paidBits_37 : decode cX6_paidBits 37 = .ok (.aload_n 0, 1) := by decide +kernel
theorem dX6_paidBits_38 : decode cX6_paidBits 38 = .ok (.getfield 86, 3) := by decide +kernel
theorem dX6_paidBits_41 : decode cX6_paidBits 41 = .ok (.iconst (-1), 1) := by decide +kernel
theorem dX6_paidBits_42 : decode cX6_paidBits 42 = .ok (.ixor, 1) := by decide +kernel
theorem dX6_paidBits_43 : decode cX6_paidBits 43 = .ok (.iand, 1) := by decide +kernel
theorem dX6_paidBits_44 : decode cX6_paidBits 44 = .ok (.ireturn, 1) := by decide +kernel
theorem dX7_init_0 : decode cX7_init 0 = .ok (.aload_n 0, 1) := by decide +kernel
theorem dX7_init_1 : decode cX7_init 1 = .ok (.invokespecial 1, 3) := by decide +kernel
theorem dX7_init_4 : decode cX7_init 4 = .ok (.aload_n 0, 1) := by decide +kernel
theorem dX7_init_5 : decode cX7_init 5 = .ok (.new 7, 3) := by decide +kernel
theorem dX7_init_8 : decode cX7_init 8 = .ok (.dup, 1) := by decide +kernel
theorem dX7_init_9 : decode cX7_init 9 = .ok (.invokespecial 9, 3) := by decide +kernel
theorem dX7_init_12 : decode cX7_init 12 = .ok (.putfield 10, 3) := by decide +kernel
theorem dX7_init_15 : decode cX7_init 15 = .ok (.aload_n 0, 1) := by decide +kernel
theorem dX7_init_16 : decode cX7_init 16 = .ok (.new 16, 3) := by decide +kernel
theorem dX7_init_19 : decode cX7_init 19 = .ok (.dup, 1) := by decide +kernel
theorem dX7_init_20 : decode cX7_init 20 = .ok (.invokespecial 18, 3) := by decide +kernel
theorem dX7_init_23 : decode cX7_init 23 = .ok (.putfield 19, 3) := by decide +kernel
theorem dX7_init_26 : decode cX7_init 26 = .ok (.aload_n 0, 1) := by decide +kernel
theorem dX7_init_27 : decode cX7_init 27 = .ok (.new 23, 3) := by decide +kernel
theorem dX7_init_30 : decode cX7_init 30 = .ok (.dup, 1) := by decide +kernel
theorem dX7_init_31 : decode cX7_init 31 = .ok (.aload_n 0, 1) := by decide +kernel
theorem dX7_init_32 : decode cX7_init 32 = .ok (.getfield 10, 3) := by decide +kernel
theorem dX7_init_35 : decode cX7_init 35 = .ok (.invokespecial 25, 3) := by decide +kernel
theorem dX7_init_38 : decode cX7_init 38 = .ok (.putfield 28, 3) := by decide +kernel
theorem dX7_init_41 : decode cX7_init 41 = .ok (.aload_n 0, 1) := by decide +kernel
theorem dX7_init_42 : decode cX7_init 42 = .ok (.new 32, 3) := by decide +kernel
theorem dX7_init_45 : decode cX7_init 45 = .ok (.dup, 1) := by decide +kernel
theorem dX7_init_46 : decode cX7_init 46 = .ok (.aload_n 0, 1) := by decide +kernel
theorem dX7_init_47 : decode cX7_init 47 = .ok (.getfield 19, 3) := by decide +kernel
theorem dX7_init_50 : decode cX7_init 50 = .ok (.invokespecial 34, 3) := by decide +kernel
theorem dX7_init_53 : decode cX7_init 53 = .ok (.putfield 37, 3) := by decide +kernel
theorem dX7_init_56 : decode cX7_init 56 = .ok (.aload_n 0, 1) := by decide +kernel
theorem dX7_init_57 : decode cX7_init 57 = .ok (.new 41, 3) := by decide +kernel
theorem dX7_init_60 : decode cX7_init 60 = .ok (.dup, 1) := by decide +kernel
theorem dX7_init_61 : decode cX7_init 61 = .ok (.invokespecial 43, 3) := by decide +kernel
theorem dX7_init_64 : decode cX7_init 64 = .ok (.putfield 44, 3) := by decide +kernel
theorem dX7_init_67 : decode cX7_init 67 = .ok (.aload_n 0, 1) := by decide +kernel
theorem dX7_init_68 : decode cX7_init 68 = .ok (.new 48, 3) := by decide +kernel
theorem dX7_init_71 : decode cX7_init 71 = .ok (.dup, 1) := by decide +kernel
theorem dX7_init_72 : decode cX7_init 72 = .ok (.invokespecial 50, 3) := by decide +kernel
theorem dX7_init_75 : decode cX7_init 75 = .ok (.putfield 51, 3) := by decide +kernel
theorem dX7_init_78 : decode cX7_init 78 = .ok (.aload_n 0, 1) := by decide +kernel
theorem dX7_init_79 : decode cX7_init 79 = .ok (.iconst 2, 1) := by decide +kernel
theorem dX7_init_80 : decode cX7_init 80 = .ok (.anewarray 16, 3) := by decide +kernel
theorem dX7_init_83 : decode cX7_init 83 = .ok (.dup, 1) := by decide +kernel
theorem dX7_init_84 : decode cX7_init 84 = .ok (.iconst 0, 1) := by decide +kernel
theorem dX7_init_85 : decode cX7_init 85 = .ok (.new 16, 3) := by decide +kernel
theorem dX7_init_88 : decode cX7_init 88 = .ok (.dup, 1) := by decide +kernel
theorem dX7_init_89 : decode cX7_init 89 = .ok (.invokespecial 18, 3) := by decide +kernel
theorem dX7_init_92 : decode cX7_init 92 = .ok (.aastore, 1) := by decide +kernel
theorem dX7_init_93 : decode cX7_init 93 = .ok (.dup, 1) := by decide +kernel
theorem dX7_init_94 : decode cX7_init 94 = .ok (.iconst 1, 1) := by decide +kernel
theorem dX7_init_95 : decode cX7_init 95 = .ok (.new 16, 3) := by decide +kernel
theorem dX7_init_98 : decode cX7_init 98 = .ok (.dup, 1) := by decide +kernel
theorem dX7_init_99 : decode cX7_init 99 = .ok (.invokespecial 18, 3) := by decide +kernel
theorem dX7_init_102 : decode cX7_init 102 = .ok (.aastore, 1) := by decide +kernel
theorem dX7_init_103 : decode cX7_init 103 = .ok (.putfield 55, 3) := by decide +kernel
theorem dX7_init_106 : decode cX7_init 106 = .ok (.aload_n 0, 1) := by decide +kernel
theorem dX7_init_107 : decode cX7_init 107 = .ok (.iconst 2, 1) := by decide +kernel
theorem dX7_init_108 : decode cX7_init 108 = .ok (.newarray .boolean, 2) := by decide +kernel
theorem dX7_init_110 : decode cX7_init 110 = .ok (.putfield 59, 3) := by decide +kernel
theorem dX7_init_113 : decode cX7_init 113 = .ok (.aload_n 0, 1) := by decide +kernel
theorem dX7_init_114 : decode cX7_init 114 = .ok (.new 63, 3) := by decide +kernel
theorem dX7_init_117 : decode cX7_init 117 = .ok (.dup, 1) := by decide +kernel
theorem dX7_init_118 : decode cX7_init 118 = .ok (.invokespecial 65, 3) := by decide +kernel
theorem dX7_init_121 : decode cX7_init 121 = .ok (.putfield 66, 3) := by decide +kernel
theorem dX7_init_124 : decode cX7_init 124 = .ok (.return_, 1) := by decide +kernel
theorem dX7_feed_0 : decode cX7_feed 0 = .ok (.iload_n 1, 1) := by decide +kernel
theorem dX7_feed_1 : decode cX7_feed 1 = .ok (.iconst 0, 1) := by decide +kernel
theorem dX7_feed_2 : decode cX7_feed 2 = .ok (.bipush 127, 2) := by decide +kernel
theorem dX7_feed_4 : decode cX7_feed 4 = .ok (.invokestatic 70, 3) := by decide +kernel
theorem dX7_feed_7 : decode cX7_feed 7 = .ok (.ifCond .ne 5, 3) := by decide +kernel
theorem dX7_feed_10 : decode cX7_feed 10 = .ok (.iconst (-1), 1) := by decide +kernel
theorem dX7_feed_11 : decode cX7_feed 11 = .ok (.ireturn, 1) := by decide +kernel
theorem dX7_feed_12 : decode cX7_feed 12 = .ok (.aload_n 0, 1) := by decide +kernel
theorem dX7_feed_13 : decode cX7_feed 13 = .ok (.getfield 10, 3) := by decide +kernel
theorem dX7_feed_16 : decode cX7_feed 16 = .ok (.getfield 74, 3) := by decide +kernel
theorem dX7_feed_19 : decode cX7_feed 19 = .ok (.sipush 160, 3) := by decide +kernel
theorem dX7_feed_22 : decode cX7_feed 22 = .ok (.if_icmp .lt 6, 3) := by decide +kernel
theorem dX7_feed_25 : decode cX7_feed 25 = .ok (.bipush (-3), 2) := by decide +kernel
theorem dX7_feed_27 : decode cX7_feed 27 = .ok (.ireturn, 1) := by decide +kernel
theorem dX7_feed_28 : decode cX7_feed 28 = .ok (.aload_n 0, 1) := by decide +kernel
theorem dX7_feed_29 : decode cX7_feed 29 = .ok (.getfield 10, 3) := by decide +kernel
theorem dX7_feed_32 : decode cX7_feed 32 = .ok (.getfield 78, 3) := by decide +kernel
theorem dX7_feed_35 : decode cX7_feed 35 = .ok (.aload_n 0, 1) := by decide +kernel
theorem dX7_feed_36 : decode cX7_feed 36 = .ok (.getfield 10, 3) := by decide +kernel
theorem dX7_feed_39 : decode cX7_feed 39 = .ok (.getfield 74, 3) := by decide +kernel
theorem dX7_feed_42 : decode cX7_feed 42 = .ok (.iload_n 1, 1) := by decide +kernel
theorem dX7_feed_43 : decode cX7_feed 43 = .ok (.i2b, 1) := by decide +kernel
theorem dX7_feed_44 : decode cX7_feed 44 = .ok (.bastore, 1) := by decide +kernel
theorem dX7_feed_45 : decode cX7_feed 45 = .ok (.aload_n 0, 1) := by decide +kernel
theorem dX7_feed_46 : decode cX7_feed 46 = .ok (.getfield 10, 3) := by decide +kernel
theorem dX7_feed_49 : decode cX7_feed 49 = .ok (.dup, 1) := by decide +kernel
theorem dX7_feed_50 : decode cX7_feed 50 = .ok (.getfield 74, 3) := by decide +kernel
theorem dX7_feed_53 : decode cX7_feed 53 = .ok (.iconst 1, 1) := by decide +kernel
theorem dX7_feed_54 : decode cX7_feed 54 = .ok (.iadd, 1) := by decide +kernel
theorem dX7_feed_55 : decode cX7_feed 55 = .ok (.putfield 74, 3) := by decide +kernel
theorem dX7_feed_58 : decode cX7_feed 58 = .ok (.aload_n 0, 1) := by decide +kernel
theorem dX7_feed_59 : decode cX7_feed 59 = .ok (.getfield 10, 3) := by decide +kernel
theorem dX7_feed_62 : decode cX7_feed 62 = .ok (.getfield 74, 3) := by decide +kernel
theorem dX7_feed_65 : decode cX7_feed 65 = .ok (.ireturn, 1) := by decide +kernel
theorem dX7_end_0 : decode cX7_end 0 = .ok (.iload_n 1, 1) := by decide +kernel
theorem dX7_end_1 : decode cX7_end 1 = .ok (.iconst 0, 1) := by decide +kernel
theorem dX7_end_2 : decode cX7_end 2 = .ok (.aload_n 0, 1) := by decide +kernel
theorem dX7_end_3 : decode cX7_end 3 = .ok (.getfield 10, 3) := by decide +kernel
theorem dX7_end_6 : decode cX7_end 6 = .ok (.getfield 74, 3) := by decide +kernel
theorem dX7_end_9 : decode cX7_end 9 = .ok (.invokestatic 70, 3) := by decide +kernel
theorem dX7_end_12 : decode cX7_end 12 = .ok (.ifCond .ne 5, 3) := by decide +kernel
theorem dX7_end_15 : decode cX7_end 15 = .ok (.iconst (-1), 1) := by decide +kernel
theorem dX7_end_16 : decode cX7_end 16 = .ok (.ireturn, 1) := by decide +kernel
theorem dX7_end_17 : decode cX7_end 17 = .ok (.aload_n 0, 1) := by decide +kernel
theorem dX7_end_18 : decode cX7_end 18 = .ok (.getfield 10, 3) := by decide +kernel
theorem dX7_end_21 : decode cX7_end 21 = .ok (.getfield 74, 3) := by decide +kernel
theorem dX7_end_24 : decode cX7_end 24 = .ok (.istore_n 2, 1) := by decide +kernel
theorem dX7_end_25 : decode cX7_end 25 = .ok (.aload_n 0, 1) := by decide +kernel
theorem dX7_end_26 : decode cX7_end 26 = .ok (.getfield 10, 3) := by decide +kernel
theorem dX7_end_29 : decode cX7_end 29 = .ok (.iload_n 1, 1) := by decide +kernel
theorem dX7_end_30 : decode cX7_end 30 = .ok (.putfield 74, 3) := by decide +kernel
theorem dX7_end_33 : decode cX7_end 33 = .ok (.iload_n 2, 1) := by decide +kernel
theorem dX7_end_34 : decode cX7_end 34 = .ok (.ireturn, 1) := by decide +kernel
theorem dX7_text_0 : decode cX7_text 0 = .ok (.aload_n 0, 1) := by decide +kernel
theorem dX7_text_1 : decode cX7_text 1 = .ok (.getfield 28, 3) := by decide +kernel
theorem dX7_text_4 : decode cX7_text 4 = .ok (.invokevirtual 82, 3) := by decide +kernel
theorem dX7_text_7 : decode cX7_text 7 = .ok (.aload_n 0, 1) := by decide +kernel
theorem dX7_text_8 : decode cX7_text 8 = .ok (.getfield 10, 3) := by decide +kernel
theorem dX7_text_11 : decode cX7_text 11 = .ok (.iconst 0, 1) := by decide +kernel
theorem dX7_text_12 : decode cX7_text 12 = .ok (.putfield 74, 3) := by decide +kernel
theorem dX7_text_15 : decode cX7_text 15 = .ok (.aload_n 0, 1) := by decide +kernel
theorem dX7_text_16 : decode cX7_text 16 = .ok (.aload_n 0, 1) := by decide +kernel
theorem dX7_text_17 : decode cX7_text 17 = .ok (.getfield 28, 3) := by decide +kernel
theorem dX7_text_20 : decode cX7_text 20 = .ok (.getfield 85, 3) := by decide +kernel
theorem dX7_text_23 : decode cX7_text 23 = .ok (.putfield 88, 3) := by decide +kernel
theorem dX7_text_26 : decode cX7_text 26 = .ok (.aload_n 0, 1) := by decide +kernel
theorem dX7_text_27 : decode cX7_text 27 = .ok (.getfield 88, 3) := by decide +kernel
theorem dX7_text_30 : decode cX7_text 30 = .ok (.ifCond .eq 14, 3) := by decide +kernel
theorem dX7_text_33 : decode cX7_text 33 = .ok (.bipush (-10), 2) := by decide +kernel
theorem dX7_text_35 : decode cX7_text 35 = .ok (.aload_n 0, 1) := by decide +kernel
theorem dX7_text_36 : decode cX7_text 36 = .ok (.getfield 28, 3) := by decide +kernel
theorem dX7_text_39 : decode cX7_text 39 = .ok (.getfield 91, 3) := by decide +kernel
theorem dX7_text_42 : decode cX7_text 42 = .ok (.isub, 1) := by decide +kernel
theorem dX7_text_43 : decode cX7_text 43 = .ok (.ireturn, 1) := by decide +kernel
theorem dX7_text_44 : decode cX7_text 44 = .ok (.aload_n 0, 1) := by decide +kernel
theorem dX7_text_45 : decode cX7_text 45 = .ok (.getfield 19, 3) := by decide +kernel
theorem dX7_text_48 : decode cX7_text 48 = .ok (.aload_n 0, 1) := by decide +kernel
theorem dX7_text_49 : decode cX7_text 49 = .ok (.getfield 28, 3) := by decide +kernel
theorem dX7_text_52 : decode cX7_text 52 = .ok (.getfield 94, 3) := by decide +kernel
theorem dX7_text_55 : decode cX7_text 55 = .ok (.invokevirtual 97, 3) := by decide +kernel
theorem dX7_text_58 : decode cX7_text 58 = .ok (.aload_n 0, 1) := by decide +kernel
theorem dX7_text_59 : decode cX7_text 59 = .ok (.getfield 51, 3) := by decide +kernel
theorem dX7_text_62 : decode cX7_text 62 = .ok (.iconst 0, 1) := by decide +kernel
theorem dX7_text_63 : decode cX7_text 63 = .ok (.putfield 100, 3) := by decide +kernel
theorem dX7_text_66 : decode cX7_text 66 = .ok (.iconst 0, 1) := by decide +kernel
theorem dX7_text_67 : decode cX7_text 67 = .ok (.istore_n 1, 1) := by decide +kernel
theorem dX7_text_68 : decode cX7_text 68 = .ok (.iload_n 1, 1) := by decide +kernel
theorem dX7_text_69 : decode cX7_text 69 = .ok (.iconst 2, 1) := by decide +kernel
theorem dX7_text_70 : decode cX7_text 70 = .ok (.if_icmp .ge 16, 3) := by decide +kernel
theorem dX7_text_73 : decode cX7_text 73 = .ok (.aload_n 0, 1) := by decide +kernel
theorem dX7_text_74 : decode cX7_text 74 = .ok (.getfield 59, 3) := by decide +kernel
theorem dX7_text_77 : decode cX7_text 77 = .ok (.iload_n 1, 1) := by decide +kernel
theorem dX7_text_78 : decode cX7_text 78 = .ok (.iconst 0, 1) := by decide +kernel
theorem dX7_text_79 : decode cX7_text 79 = .ok (.bastore, 1) := by decide +kernel
theorem dX7_text_80 : decode cX7_text 80 = .ok (.iinc 1 1, 3) := by decide +kernel
theorem dX7_text_83 : decode cX7_text 83 = .ok (.goto (-15), 3) := by decide +kernel
theorem dX7_text_86 : decode cX7_text 86 = .ok (.aload_n 0, 1) := by decide +kernel
theorem dX7_text_87 : decode cX7_text 87 = .ok (.getfield 28, 3) := by decide +kernel
theorem dX7_text_90 : decode cX7_text 90 = .ok (.getfield 103, 3) := by decide +kernel
theorem dX7_text_93 : decode cX7_text 93 = .ok (.ireturn, 1) := by decide +kernel
theorem dX7_fault_0 : decode cX7_fault 0 = .ok (.aload_n 0, 1) := by decide +kernel
theorem dX7_fault_1 : decode cX7_fault 1 = .ok (.getfield 88, 3) := by decide +kernel
theorem dX7_fault_4 : decode cX7_fault 4 = .ok (.ireturn, 1) := by decide +kernel
theorem dX7_rule_0 : decode cX7_rule 0 = .ok (.iload_n 1, 1) := by decide +kernel
theorem dX7_rule_1 : decode cX7_rule 1 = .ok (.tableswitch 120 0 6 #[43, 51, 59, 67, 75, 93, 111], 43) := by decide +kernel
theorem dX7_rule_44 : decode cX7_rule 44 = .ok (.aload_n 0, 1) := by decide +kernel
theorem dX7_rule_45 : decode cX7_rule 45 = .ok (.getfield 19, 3) := by decide +kernel
theorem dX7_rule_48 : decode cX7_rule 48 = .ok (.getfield 106, 3) := by decide +kernel
theorem dX7_rule_51 : decode cX7_rule 51 = .ok (.ireturn, 1) := by decide +kernel
theorem dX7_rule_52 : decode cX7_rule 52 = .ok (.aload_n 0, 1) := by decide +kernel
theorem dX7_rule_53 : decode cX7_rule 53 = .ok (.getfield 19, 3) := by decide +kernel
theorem dX7_rule_56 : decode cX7_rule 56 = .ok (.getfield 109, 3) := by decide +kernel
theorem dX7_rule_59 : decode cX7_rule 59 = .ok (.ireturn, 1) := by decide +kernel
theorem dX7_rule_60 : decode cX7_rule 60 = .ok (.aload_n 0, 1) := by decide +kernel
theorem dX7_rule_61 : decode cX7_rule 61 = .ok (.getfield 19, 3) := by decide +kernel
theorem dX7_rule_64 : decode cX7_rule 64 = .ok (.getfield 112, 3) := by decide +kernel
theorem dX7_rule_67 : decode cX7_rule 67 = .ok (.ireturn, 1) := by decide +kernel
theorem dX7_rule_68 : decode cX7_rule 68 = .ok (.aload_n 0, 1) := by decide +kernel
theorem dX7_rule_69 : decode cX7_rule 69 = .ok (.getfield 19, 3) := by decide +kernel
theorem dX7_rule_72 : decode cX7_rule 72 = .ok (.getfield 115, 3) := by decide +kernel
theorem dX7_rule_75 : decode cX7_rule 75 = .ok (.ireturn, 1) := by decide +kernel
theorem dX7_rule_76 : decode cX7_rule 76 = .ok (.aload_n 0, 1) := by decide +kernel
theorem dX7_rule_77 : decode cX7_rule 77 = .ok (.getfield 19, 3) := by decide +kernel
theorem dX7_rule_80 : decode cX7_rule 80 = .ok (.getfield 118, 3) := by decide +kernel
theorem dX7_rule_83 : decode cX7_rule 83 = .ok (.aload_n 0, 1) := by decide +kernel
theorem dX7_rule_84 : decode cX7_rule 84 = .ok (.getfield 19, 3) := by decide +kernel
theorem dX7_rule_87 : decode cX7_rule 87 = .ok (.getfield 109, 3) := by decide +kernel
theorem dX7_rule_90 : decode cX7_rule 90 = .ok (.invokestatic 122, 3) := by decide +kernel
theorem dX7_rule_93 : decode cX7_rule 93 = .ok (.ireturn, 1) := by decide +kernel
theorem dX7_rule_94 : decode cX7_rule 94 = .ok (.aload_n 0, 1) := by decide +kernel
theorem dX7_rule_95 : decode cX7_rule 95 = .ok (.getfield 19, 3) := by decide +kernel
theorem dX7_rule_98 : decode cX7_rule 98 = .ok (.getfield 126, 3) := by decide +kernel
theorem dX7_rule_101 : decode cX7_rule 101 = .ok (.aload_n 0, 1) := by decide +kernel
theorem dX7_rule_102 : decode cX7_rule 102 = .ok (.getfield 19, 3) := by decide +kernel
theorem dX7_rule_105 : decode cX7_rule 105 = .ok (.getfield 109, 3) := by decide +kernel
theorem dX7_rule_108 : decode cX7_rule 108 = .ok (.invokestatic 122, 3) := by decide +kernel
theorem dX7_rule_111 : decode cX7_rule 111 = .ok (.ireturn, 1) := by decide +kernel
theorem dX7_rule_112 : decode cX7_rule 112 = .ok (.aload_n 0, 1) := by decide +kernel
theorem dX7_rule_113 : decode cX7_rule 113 = .ok (.getfield 19, 3) := by decide +kernel
theorem dX7_rule_116 : decode cX7_rule 116 = .ok (.iconst 2, 1) := by decide +kernel
theorem dX7_rule_117 : decode cX7_rule 117 = .ok (.invokevirtual 129, 3) := by decide +kernel
theorem dX7_rule_120 : decode cX7_rule 120 = .ok (.ireturn, 1) := by decide +kernel
theorem dX7_rule_121 : decode cX7_rule 121 = .ok (.iconst (-1), 1) := by decide +kernel
theorem dX7_rule_122 : decode cX7_rule 122 = .ok (.ireturn, 1) := by decide +kernel
theorem dX7_house_0 : decode cX7_house 0 = .ok (.iload_n 1, 1) := by decide +kernel
theorem dX7_house_1 : decode cX7_house 1 = .ok (.iconst 1, 1) := by decide +kernel
theorem dX7_house_2 : decode cX7_house 2 = .ok (.aload_n 0, 1) := by decide +kernel
theorem dX7_house_3 : decode cX7_house 3 = .ok (.getfield 19, 3) := by decide +kernel
theorem dX7_house_6 : decode cX7_house 6 = .ok (.getfield 106, 3) := by decide +kernel
theorem dX7_house_9 : decode cX7_house 9 = .ok (.invokestatic 70, 3) := by decide +kernel
theorem dX7_house_12 : decode cX7_house 12 = .ok (.ifCond .eq 12, 3) := by decide +kernel
theorem dX7_house_15 : decode cX7_house 15 = .ok (.iload_n 2, 1) := by decide +kernel
theorem dX7_house_16 : decode cX7_house 16 = .ok (.iconst 0, 1) := by decide +kernel
theorem dX7_house_17 : decode cX7_house 17 = .ok (.iconst 1, 1) := by decide +kernel
theorem dX7_house_18 : decode cX7_house 18 = .ok (.invokestatic 70, 3) := by decide +kernel
theorem dX7_house_21 : decode cX7_house 21 = .ok (.ifCond .ne 5, 3) := by decide +kernel
theorem dX7_house_24 : decode cX7_house 24 = .ok (.iconst (-1), 1) := by decide +kernel
theorem dX7_house_25 : decode cX7_house 25 = .ok (.ireturn, 1) := by decide +kernel
theorem dX7_house_26 : decode cX7_house 26 = .ok (.aload_n 0, 1) := by decide +kernel
theorem dX7_house_27 : decode cX7_house 27 = .ok (.getfield 19, 3) := by decide +kernel
theorem dX7_house_30 : decode cX7_house 30 = .ok (.iload_n 1, 1) := by decide +kernel
theorem dX7_house_31 : decode cX7_house 31 = .ok (.iload_n 2, 1) := by decide +kernel
theorem dX7_house_32 : decode cX7_house 32 = .ok (.invokevirtual 133, 3) := by decide +kernel
theorem dX7_house_35 : decode cX7_house 35 = .ok (.ireturn, 1) := by decide +kernel
theorem dX7_order_0 : decode cX7_order 0 = .ok (.aload_n 0, 1) := by decide +kernel
theorem dX7_order_1 : decode cX7_order 1 = .ok (.iload_n 1, 1) := by decide +kernel
theorem dX7_order_2 : decode cX7_order 2 = .ok (.invokevirtual 137, 3) := by decide +kernel
theorem dX7_order_5 : decode cX7_order 5 = .ok (.ifCond .eq 13, 3) := by decide +kernel
theorem dX7_order_8 : decode cX7_order 8 = .ok (.iload_n 2, 1) := by decide +kernel
theorem dX7_order_9 : decode cX7_order 9 = .ok (.iconst 0, 1) := by decide +kernel
theorem dX7_order_10 : decode cX7_order 10 = .ok (.bipush 6, 2) := by decide +kernel
theorem dX7_order_12 : decode cX7_order 12 = .ok (.invokestatic 70, 3) := by decide +kernel
theorem dX7_order_15 : decode cX7_order 15 = .ok (.ifCond .ne 5, 3) := by decide +kernel
theorem dX7_order_18 : decode cX7_order 18 = .ok (.iconst (-1), 1) := by decide +kernel
theorem dX7_order_19 : decode cX7_order 19 = .ok (.ireturn, 1) := by decide +kernel
theorem dX7_order_20 : decode cX7_order 20 = .ok (.iload_n 2, 1) := by decide +kernel
theorem dX7_order_21 : decode cX7_order 21 = .ok (.iconst 5, 1) := by decide +kernel
theorem dX7_order_22 : decode cX7_order 22 = .ok (.if_icmp .ge 13, 3) := by decide +kernel
theorem dX7_order_25 : decode cX7_order 25 = .ok (.aload_n 0, 1) := by decide +kernel
theorem dX7_order_26 : decode cX7_order 26 = .ok (.getfield 19, 3) := by decide +kernel
theorem dX7_order_29 : decode cX7_order 29 = .ok (.iload_n 1, 1) := by decide +kernel
theorem dX7_order_30 : decode cX7_order 30 = .ok (.iload_n 2, 1) := by decide +kernel
theorem dX7_order_31 : decode cX7_order 31 = .ok (.invokevirtual 141, 3) := by decide +kernel
theorem dX7_order_34 : decode cX7_order 34 = .ok (.ireturn, 1) := by decide +kernel
theorem dX7_order_35 : decode cX7_order 35 = .ok (.iload_n 2, 1) := by decide +kernel
theorem dX7_order_36 : decode cX7_order 36 = .ok (.iconst 5, 1) := by decide +kernel
theorem dX7_order_37 : decode cX7_order 37 = .ok (.if_icmp .ne 13, 3) := by decide +kernel
theorem dX7_order_40 : decode cX7_order 40 = .ok (.aload_n 0, 1) := by decide +kernel
theorem dX7_order_41 : decode cX7_order 41 = .ok (.getfield 19, 3) := by decide +kernel
theorem dX7_order_44 : decode cX7_order 44 = .ok (.getfield 118, 3) := by decide +kernel
theorem dX7_order_47 : decode cX7_order 47 = .ok (.goto 10, 3) := by decide +kernel
theorem dX7_order_50 : decode cX7_order 50 = .ok (.aload_n 0, 1) := by decide +kernel
theorem dX7_order_51 : decode cX7_order 51 = .ok (.getfield 19, 3) := by decide +kernel
theorem dX7_order_54 : decode cX7_order 54 = .ok (.getfield 126, 3) := by decide +kernel
theorem dX7_order_57 : decode cX7_order 57 = .ok (.aload_n 0, 1) := by decide +kernel
theorem dX7_order_58 : decode cX7_order 58 = .ok (.getfield 19, 3) := by decide +kernel
theorem dX7_order_61 : decode cX7_order 61 = .ok (.getfield 109, 3) := by decide +kernel
theorem dX7_order_64 : decode cX7_order 64 = .ok (.iload_n 1, 1) := by decide +kernel
theorem dX7_order_65 : decode cX7_order 65 = .ok (.invokestatic 144, 3) := by decide +kernel
theorem dX7_order_68 : decode cX7_order 68 = .ok (.ireturn, 1) := by decide +kernel
theorem dX7_set_0 : decode cX7_set 0 = .ok (.iload_n 1, 1) := by decide +kernel
theorem dX7_set_1 : decode cX7_set 1 = .ok (.iconst 0, 1) := by decide +kernel
theorem dX7_set_2 : decode cX7_set 2 = .ok (.iconst 1, 1) := by decide +kernel
theorem dX7_set_3 : decode cX7_set 3 = .ok (.invokestatic 70, 3) := by decide +kernel
theorem dX7_set_6 : decode cX7_set 6 = .ok (.ifCond .eq 22, 3) := by decide +kernel
theorem dX7_set_9 : decode cX7_set 9 = .ok (.iload_n 2, 1) := by decide +kernel
theorem dX7_set_10 : decode cX7_set 10 = .ok (.iconst 0, 1) := by decide +kernel
theorem dX7_set_11 : decode cX7_set 11 = .ok (.iload_n 1, 1) := by decide +kernel
theorem dX7_set_12 : decode cX7_set 12 = .ok (.ifCond .ne 8, 3) := by decide +kernel
theorem dX7_set_15 : decode cX7_set 15 = .ok (.bipush 60, 2) := by decide +kernel
theorem dX7_set_17 : decode cX7_set 17 = .ok (.goto 5, 3) := by decide +kernel
theorem dX7_set_20 : decode cX7_set 20 = .ok (.bipush 60, 2) := by decide +kernel
theorem dX7_set_22 : decode cX7_set 22 = .ok (.invokestatic 70, 3) := by decide +kernel
theorem dX7_set_25 : decode cX7_set 25 = .ok (.ifCond .ne 5, 3) := by decide +kernel
theorem dX7_set_28 : decode cX7_set 28 = .ok (.iconst (-1), 1) := by decide +kernel
theorem dX7_set_29 : decode cX7_set 29 = .ok (.ireturn, 1) := by decide +kernel
theorem dX7_set_30 : decode cX7_set 30 = .ok (.iload_n 1, 1) := by decide +kernel
theorem dX7_set_31 : decode cX7_set 31 = .ok (.ifCond .ne 13, 3) := by decide +kernel
theorem dX7_set_34 : decode cX7_set 34 = .ok (.aload_n 0, 1) := by decide +kernel
theorem dX7_set_35 : decode cX7_set 35 = .ok (.getfield 19, 3) := by decide +kernel
theorem dX7_set_38 : decode cX7_set 38 = .ok (.getfield 112, 3) := by decide +kernel
theorem dX7_set_41 : decode cX7_set 41 = .ok (.goto 10, 3) := by decide +kernel
theorem dX7_set_44 : decode cX7_set 44 = .ok (.aload_n 0, 1) := by decide +kernel
theorem dX7_set_45 : decode cX7_set 45 = .ok (.getfield 19, 3) := by decide +kernel
theorem dX7_set_48 : decode cX7_set 48 = .ok (.getfield 115, 3) := by decide +kernel
theorem dX7_set_51 : decode cX7_set 51 = .ok (.istore_n 3, 1) := by decide +kernel
theorem dX7_set_52 : decode cX7_set 52 = .ok (.iload_n 1, 1) := by decide +kernel
theorem dX7_set_53 : decode cX7_set 53 = .ok (.ifCond .ne 14, 3) := by decide +kernel
theorem dX7_set_56 : decode cX7_set 56 = .ok (.aload_n 0, 1) := by decide +kernel
theorem dX7_set_57 : decode cX7_set 57 = .ok (.getfield 19, 3) := by decide +kernel
theorem dX7_set_60 : decode cX7_set 60 = .ok (.iload_n 2, 1) := by decide +kernel
theorem dX7_set_61 : decode cX7_set 61 = .ok (.putfield 112, 3) := by decide +kernel
theorem dX7_set_64 : decode cX7_set 64 = .ok (.goto 11, 3) := by decide +kernel
theorem dX7_set_67 : decode cX7_set 67 = .ok (.aload_n 0, 1) := by decide +kernel
theorem dX7_set_68 : decode cX7_set 68 = .ok (.getfield 19, 3) := by decide +kernel
theorem dX7_set_71 : decode cX7_set 71 = .ok (.iload_n 2, 1) := by decide +kernel
theorem dX7_set_72 : decode cX7_set 72 = .ok (.putfield 115, 3) := by decide +kernel
theorem dX7_set_75 : decode cX7_set 75 = .ok (.iload_n 3, 1) := by decide +kernel
theorem dX7_set_76 : decode cX7_set 76 = .ok (.ireturn, 1) := by decide +kernel
theorem dX7_pack_0 : decode cX7_pack 0 = .ok (.aload_n 0, 1) := by decide +kernel
theorem dX7_pack_1 : decode cX7_pack 1 = .ok (.aload_n 0, 1) := by decide +kernel
theorem dX7_pack_2 : decode cX7_pack 2 = .ok (.getfield 19, 3) := by decide +kernel
theorem dX7_pack_5 : decode cX7_pack 5 = .ok (.getfield 118, 3) := by decide +kernel
theorem dX7_pack_8 : decode cX7_pack 8 = .ok (.iload_n 1, 1) := by decide +kernel
theorem dX7_pack_9 : decode cX7_pack 9 = .ok (.iload_n 2, 1) := by decide +kernel
theorem dX7_pack_10 : decode cX7_pack 10 = .ok (.invokevirtual 148, 3) := by decide +kernel
theorem dX7_pack_13 : decode cX7_pack 13 = .ok (.ireturn, 1) := by decide +kernel
theorem dX7_swap_0 : decode cX7_swap 0 = .ok (.aload_n 0, 1) := by decide +kernel
theorem dX7_swap_1 : decode cX7_swap 1 = .ok (.aload_n 0, 1) := by decide +kernel
theorem dX7_swap_2 : decode cX7_swap 2 = .ok (.getfield 19, 3) := by decide +kernel
theorem dX7_swap_5 : decode cX7_swap 5 = .ok (.getfield 126, 3) := by decide +kernel
theorem dX7_swap_8 : decode cX7_swap 8 = .ok (.iload_n 1, 1) := by decide +kernel
theorem dX7_swap_9 : decode cX7_swap 9 = .ok (.iload_n 2, 1) := by decide +kernel
theorem dX7_swap_10 : decode cX7_swap 10 = .ok (.invokevirtual 148, 3) := by decide +kernel
theorem dX7_swap_13 : decode cX7_swap 13 = .ok (.ireturn, 1) := by decide +kernel
theorem dX7_top_0 : decode cX7_top 0 = .ok (.aload_n 0, 1) := by decide +kernel
theorem dX7_top_1 : decode cX7_top 1 = .ok (.aload_n 0, 1) := by decide +kernel
theorem dX7_top_2 : decode cX7_top 2 = .ok (.getfield 19, 3) := by decide +kernel
theorem dX7_top_5 : decode cX7_top 5 = .ok (.getfield 118, 3) := by decide +kernel
theorem dX7_top_8 : decode cX7_top 8 = .ok (.iload_n 1, 1) := by decide +kernel
theorem dX7_top_9 : decode cX7_top 9 = .ok (.invokevirtual 151, 3) := by decide +kernel
theorem dX7_top_12 : decode cX7_top 12 = .ok (.ireturn, 1) := by decide +kernel
theorem dX7_first_0 : decode cX7_first 0 = .ok (.aload_n 0, 1) := by decide +kernel
theorem dX7_first_1 : decode cX7_first 1 = .ok (.aload_n 0, 1) := by decide +kernel
theorem dX7_first_2 : decode cX7_first 2 = .ok (.getfield 19, 3) := by decide +kernel
theorem dX7_first_5 : decode cX7_first 5 = .ok (.getfield 126, 3) := by decide +kernel
theorem dX7_first_8 : decode cX7_first 8 = .ok (.iload_n 1, 1) := by decide +kernel
theorem dX7_first_9 : decode cX7_first 9 = .ok (.invokevirtual 151, 3) := by decide +kernel
theorem dX7_first_12 : decode cX7_first 12 = .ok (.ireturn, 1) := by decide +kernel
theorem dX7_ask_0 : decode cX7_ask 0 = .ok (.iload_n 2, 1) := by decide +kernel
theorem dX7_ask_1 : decode cX7_ask 1 = .ok (.iconst 3, 1) := by decide +kernel
theorem dX7_ask_2 : decode cX7_ask 2 = .ok (.iconst 4, 1) := by decide +kernel
theorem dX7_ask_3 : decode cX7_ask 3 = .ok (.invokestatic 70, 3) := by decide +kernel
theorem dX7_ask_6 : decode cX7_ask 6 = .ok (.ifCond .ne 5, 3) := by decide +kernel
theorem dX7_ask_9 : decode cX7_ask 9 = .ok (.iconst (-1), 1) := by decide +kernel
theorem dX7_ask_10 : decode cX7_ask 10 = .ok (.ireturn, 1) := by decide +kernel
theorem dX7_ask_11 : decode cX7_ask 11 = .ok (.aload_n 0, 1) := by decide +kernel
theorem dX7_ask_12 : decode cX7_ask 12 = .ok (.iload_n 1, 1) := by decide +kernel
theorem dX7_ask_13 : decode cX7_ask 13 = .ok (.iload_n 2, 1) := by decide +kernel
theorem dX7_ask_14 : decode cX7_ask 14 = .ok (.iload_n 3, 1) := by decide +kernel
theorem dX7_ask_15 : decode cX7_ask 15 = .ok (.invokevirtual 154, 3) := by decide +kernel
theorem dX7_ask_18 : decode cX7_ask 18 = .ok (.ireturn, 1) := by decide +kernel
theorem dX7_turn_0 : decode cX7_turn 0 = .ok (.aload_n 0, 1) := by decide +kernel
theorem dX7_turn_1 : decode cX7_turn 1 = .ok (.iload_n 1, 1) := by decide +kernel
theorem dX7_turn_2 : decode cX7_turn 2 = .ok (.iconst 0, 1) := by decide +kernel
theorem dX7_turn_3 : decode cX7_turn 3 = .ok (.iload_n 2, 1) := by decide +kernel
theorem dX7_turn_4 : decode cX7_turn 4 = .ok (.invokevirtual 154, 3) := by decide +kernel
theorem dX7_turn_7 : decode cX7_turn 7 = .ok (.ireturn, 1) := by decide +kernel
theorem dX7_weigh_0 : decode cX7_weigh 0 = .ok (.aload_n 0, 1) := by decide +kernel
theorem dX7_weigh_1 : decode cX7_weigh 1 = .ok (.iload_n 1, 1) := by decide +kernel
theorem dX7_weigh_2 : decode cX7_weigh 2 = .ok (.iconst 2, 1) := by decide +kernel
theorem dX7_weigh_3 : decode cX7_weigh 3 = .ok (.iload_n 2, 1) := by decide +kernel
theorem dX7_weigh_4 : decode cX7_weigh 4 = .ok (.invokevirtual 154, 3) := by decide +kernel
theorem dX7_weigh_7 : decode cX7_weigh 7 = .ok (.ireturn, 1) := by decide +kernel
theorem dX7_way_0 : decode cX7_way 0 = .ok (.iload_n 1, 1) := by decide +kernel
theorem dX7_way_1 : decode cX7_way 1 = .ok (.iconst 0, 1) := by decide +kernel
theorem dX7_way_2 : decode cX7_way 2 = .ok (.aload_n 0, 1) := by decide +kernel
theorem dX7_way_3 : decode cX7_way 3 = .ok (.getfield 19, 3) := by decide +kernel
theorem dX7_way_6 : decode cX7_way 6 = .ok (.getfield 106, 3) := by decide +kernel
theorem dX7_way_9 : decode cX7_way 9 = .ok (.invokestatic 70, 3) := by decide +kernel
theorem dX7_way_12 : decode cX7_way 12 = .ok (.ifCond .eq 28, 3) := by decide +kernel
theorem dX7_way_15 : decode cX7_way 15 = .ok (.iload_n 2, 1) := by decide +kernel
theorem dX7_way_16 : decode cX7_way 16 = .ok (.iconst 0, 1) := by decide +kernel
theorem dX7_way_17 : decode cX7_way 17 = .ok (.aload_n 0, 1) := by decide +kernel
theorem dX7_way_18 : decode cX7_way 18 = .ok (.getfield 19, 3) := by decide +kernel
theorem dX7_way_21 : decode cX7_way 21 = .ok (.getfield 106, 3) := by decide +kernel
theorem dX7_way_24 : decode cX7_way 24 = .ok (.invokestatic 70, 3) := by decide +kernel
theorem dX7_way_27 : decode cX7_way 27 = .ok (.ifCond .eq 13, 3) := by decide +kernel
theorem dX7_way_30 : decode cX7_way 30 = .ok (.iload_n 3, 1) := by decide +kernel
theorem dX7_way_31 : decode cX7_way 31 = .ok (.iconst 0, 1) := by decide +kernel
theorem dX7_way_32 : decode cX7_way 32 = .ok (.bipush 60, 2) := by decide +kernel
theorem dX7_way_34 : decode cX7_way 34 = .ok (.invokestatic 70, 3) := by decide +kernel
theorem dX7_way_37 : decode cX7_way 37 = .ok (.ifCond .ne 5, 3) := by decide +kernel
theorem dX7_way_40 : decode cX7_way 40 = .ok (.iconst (-1), 1) := by decide +kernel
theorem dX7_way_41 : decode cX7_way 41 = .ok (.ireturn, 1) := by decide +kernel
theorem dX7_way_42 : decode cX7_way 42 = .ok (.aload_n 0, 1) := by decide +kernel
theorem dX7_way_43 : decode cX7_way 43 = .ok (.getfield 19, 3) := by decide +kernel
theorem dX7_way_46 : decode cX7_way 46 = .ok (.iload_n 1, 1) := by decide +kernel
theorem dX7_way_47 : decode cX7_way 47 = .ok (.iload_n 2, 1) := by decide +kernel
theorem dX7_way_48 : decode cX7_way 48 = .ok (.iload_n 3, 1) := by decide +kernel
theorem dX7_way_49 : decode cX7_way 49 = .ok (.aload_n 0, 1) := by decide +kernel
theorem dX7_way_50 : decode cX7_way 50 = .ok (.getfield 19, 3) := by decide +kernel
theorem dX7_way_53 : decode cX7_way 53 = .ok (.getfield 112, 3) := by decide +kernel
theorem dX7_way_56 : decode cX7_way 56 = .ok (.if_icmp .le 7, 3) := by decide +kernel
theorem dX7_way_59 : decode cX7_way 59 = .ok (.iconst 1, 1) := by decide +kernel
theorem dX7_way_60 : decode cX7_way 60 = .ok (.goto 4, 3) := by decide +kernel
theorem dX7_way_63 : decode cX7_way 63 = .ok (.iconst 0, 1) := by decide +kernel
theorem dX7_way_64 : decode cX7_way 64 = .ok (.invokevirtual 158, 3) := by decide +kernel
theorem dX7_way_67 : decode cX7_way 67 = .ok (.ireturn, 1) := by decide +kernel
theorem dX7_time_0 : decode cX7_time 0 = .ok (.aload_n 0, 1) := by decide +kernel
theorem dX7_time_1 : decode cX7_time 1 = .ok (.iload_n 1, 1) := by decide +kernel
theorem dX7_time_2 : decode cX7_time 2 = .ok (.invokevirtual 137, 3) := by decide +kernel
theorem dX7_time_5 : decode cX7_time 5 = .ok (.ifCond .ne 5, 3) := by decide +kernel
theorem dX7_time_8 : decode cX7_time 8 = .ok (.iconst (-1), 1) := by decide +kernel
theorem dX7_time_9 : decode cX7_time 9 = .ok (.ireturn, 1) := by decide +kernel
theorem dX7_time_10 : decode cX7_time 10 = .ok (.aload_n 0, 1) := by decide +kernel
theorem dX7_time_11 : decode cX7_time 11 = .ok (.invokevirtual 162, 3) := by decide +kernel
theorem dX7_time_14 : decode cX7_time 14 = .ok (.aload_n 0, 1) := by decide +kernel
theorem dX7_time_15 : decode cX7_time 15 = .ok (.getfield 37, 3) := by decide +kernel
theorem dX7_time_18 : decode cX7_time 18 = .ok (.getfield 165, 3) := by decide +kernel
theorem dX7_time_21 : decode cX7_time 21 = .ok (.iload_n 1, 1) := by decide +kernel
theorem dX7_time_22 : decode cX7_time 22 = .ok (.iaload, 1) := by decide +kernel
theorem dX7_time_23 : decode cX7_time 23 = .ok (.ireturn, 1) := by decide +kernel
theorem dX7_back_0 : decode cX7_back 0 = .ok (.aload_n 0, 1) := by decide +kernel
theorem dX7_back_1 : decode cX7_back 1 = .ok (.invokevirtual 162, 3) := by decide +kernel
theorem dX7_back_4 : decode cX7_back 4 = .ok (.aload_n 0, 1) := by decide +kernel
theorem dX7_back_5 : decode cX7_back 5 = .ok (.getfield 37, 3) := by decide +kernel
theorem dX7_back_8 : decode cX7_back 8 = .ok (.getfield 168, 3) := by decide +kernel
theorem dX7_back_11 : decode cX7_back 11 = .ok (.ireturn, 1) := by decide +kernel
theorem dX7_spoilt_0 : decode cX7_spoilt 0 = .ok (.aload_n 0, 1) := by decide +kernel
theorem dX7_spoilt_1 : decode cX7_spoilt 1 = .ok (.invokevirtual 162, 3) := by decide +kernel
theorem dX7_spoilt_4 : decode cX7_spoilt 4 = .ok (.aload_n 0, 1) := by decide +kernel
theorem dX7_spoilt_5 : decode cX7_spoilt 5 = .ok (.getfield 37, 3) := by decide +kernel
theorem dX7_spoilt_8 : decode cX7_spoilt 8 = .ok (.getfield 171, 3) := by decide +kernel
theorem dX7_spoilt_11 : decode cX7_spoilt 11 = .ok (.ireturn, 1) := by decide +kernel
theorem dX7_late_0 : decode cX7_late 0 = .ok (.aload_n 0, 1) := by decide +kernel
theorem dX7_late_1 : decode cX7_late 1 = .ok (.invokevirtual 162, 3) := by decide +kernel
theorem dX7_late_4 : decode cX7_late 4 = .ok (.aload_n 0, 1) := by decide +kernel
theorem dX7_late_5 : decode cX7_late 5 = .ok (.getfield 37, 3) := by decide +kernel
theorem dX7_late_8 : decode cX7_late 8 = .ok (.getfield 174, 3) := by decide +kernel
theorem dX7_late_11 : decode cX7_late 11 = .ok (.ireturn, 1) := by decide +kernel
theorem dX7_pennies_0 : decode cX7_pennies 0 = .ok (.aload_n 0, 1) := by decide +kernel
theorem dX7_pennies_1 : decode cX7_pennies 1 = .ok (.invokevirtual 162, 3) := by decide +kernel
theorem dX7_pennies_4 : decode cX7_pennies 4 = .ok (.aload_n 0, 1) := by decide +kernel
theorem dX7_pennies_5 : decode cX7_pennies 5 = .ok (.getfield 37, 3) := by decide +kernel
theorem dX7_pennies_8 : decode cX7_pennies 8 = .ok (.getfield 177, 3) := by decide +kernel
theorem dX7_pennies_11 : decode cX7_pennies 11 = .ok (.ireturn, 1) := by decide +kernel
theorem dX7_spent_0 : decode cX7_spent 0 = .ok (.iload_n 1, 1) := by decide +kernel
theorem dX7_spent_1 : decode cX7_spent 1 = .ok (.iconst 0, 1) := by decide +kernel
theorem dX7_spent_2 : decode cX7_spent 2 = .ok (.iconst 2, 1) := by decide +kernel
theorem dX7_spent_3 : decode cX7_spent 3 = .ok (.invokestatic 70, 3) := by decide +kernel
theorem dX7_spent_6 : decode cX7_spent 6 = .ok (.ifCond .ne 5, 3) := by decide +kernel
theorem dX7_spent_9 : decode cX7_spent 9 = .ok (.iconst (-1), 1) := by decide +kernel
theorem dX7_spent_10 : decode cX7_spent 10 = .ok (.ireturn, 1) := by decide +kernel
theorem dX7_spent_11 : decode cX7_spent 11 = .ok (.aload_n 0, 1) := by decide +kernel
theorem dX7_spent_12 : decode cX7_spent 12 = .ok (.invokevirtual 162, 3) := by decide +kernel
theorem dX7_spent_15 : decode cX7_spent 15 = .ok (.iload_n 1, 1) := by decide +kernel
theorem dX7_spent_16 : decode cX7_spent 16 = .ok (.lookupswitch 44 #[(0, 28), (1, 36)], 28) := by decide +kernel
theorem dX7_spent_44 : decode cX7_spent 44 = .ok (.aload_n 0, 1) := by decide +kernel
theorem dX7_spent_45 : decode cX7_spent 45 = .ok (.getfield 37, 3) := by decide +kernel
theorem dX7_spent_48 : decode cX7_spent 48 = .ok (.getfield 180, 3) := by decide +kernel
theorem dX7_spent_51 : decode cX7_spent 51 = .ok (.ireturn, 1) := by decide +kernel
theorem dX7_spent_52 : decode cX7_spent 52 = .ok (.aload_n 0, 1) := by decide +kernel
theorem dX7_spent_53 : decode cX7_spent 53 = .ok (.getfield 37, 3) := by decide +kernel
theorem dX7_spent_56 : decode cX7_spent 56 = .ok (.getfield 183, 3) := by decide +kernel
theorem dX7_spent_59 : decode cX7_spent 59 = .ok (.ireturn, 1) := by decide +kernel
theorem dX7_spent_60 : decode cX7_spent 60 = .ok (.aload_n 0, 1) := by decide +kernel
theorem dX7_spent_61 : decode cX7_spent 61 = .ok (.getfield 37, 3) := by decide +kernel
theorem dX7_spent_64 : decode cX7_spent 64 = .ok (.getfield 186, 3) := by decide +kernel
theorem dX7_spent_67 : decode cX7_spent 67 = .ok (.ireturn, 1) := by decide +kernel
theorem dX7_best_0 : decode cX7_best 0 = .ok (.iload_n 1, 1) := by decide +kernel
theorem dX7_best_1 : decode cX7_best 1 = .ok (.iconst 0, 1) := by decide +kernel
theorem dX7_best_2 : decode cX7_best 2 = .ok (.iconst 3, 1) := by decide +kernel
theorem dX7_best_3 : decode cX7_best 3 = .ok (.invokestatic 70, 3) := by decide +kernel
theorem dX7_best_6 : decode cX7_best 6 = .ok (.ifCond .ne 5, 3) := by decide +kernel
theorem dX7_best_9 : decode cX7_best 9 = .ok (.iconst (-1), 1) := by decide +kernel
theorem dX7_best_10 : decode cX7_best 10 = .ok (.ireturn, 1) := by decide +kernel
theorem dX7_best_11 : decode cX7_best 11 = .ok (.aload_n 0, 1) := by decide +kernel
theorem dX7_best_12 : decode cX7_best 12 = .ok (.invokevirtual 189, 3) := by decide +kernel
theorem dX7_best_15 : decode cX7_best 15 = .ok (.iload_n 1, 1) := by decide +kernel
theorem dX7_best_16 : decode cX7_best 16 = .ok (.tableswitch 52 0 2 #[28, 36, 44], 28) := by decide +kernel
theorem dX7_best_44 : decode cX7_best 44 = .ok (.aload_n 0, 1) := by decide +kernel
theorem dX7_best_45 : decode cX7_best 45 = .ok (.getfield 44, 3) := by decide +kernel
theorem dX7_best_48 : decode cX7_best 48 = .ok (.getfield 192, 3) := by decide +kernel
theorem dX7_best_51 : decode cX7_best 51 = .ok (.ireturn, 1) := by decide +kernel
theorem dX7_best_52 : decode cX7_best 52 = .ok (.aload_n 0, 1) := by decide +kernel
theorem dX7_best_53 : decode cX7_best 53 = .ok (.getfield 44, 3) := by decide +kernel
theorem dX7_best_56 : decode cX7_best 56 = .ok (.getfield 195, 3) := by decide +kernel
theorem dX7_best_59 : decode cX7_best 59 = .ok (.ireturn, 1) := by decide +kernel
theorem dX7_best_60 : decode cX7_best 60 = .ok (.aload_n 0, 1) := by decide +kernel
theorem dX7_best_61 : decode cX7_best 61 = .ok (.getfield 44, 3) := by decide +kernel
theorem dX7_best_64 : decode cX7_best 64 = .ok (.getfield 196, 3) := by decide +kernel
theorem dX7_best_67 : decode cX7_best 67 = .ok (.ireturn, 1) := by decide +kernel
theorem dX7_best_68 : decode cX7_best 68 = .ok (.aload_n 0, 1) := by decide +kernel
theorem dX7_best_69 : decode cX7_best 69 = .ok (.getfield 44, 3) := by decide +kernel
theorem dX7_best_72 : decode cX7_best 72 = .ok (.getfield 198, 3) := by decide +kernel
theorem dX7_best_75 : decode cX7_best 75 = .ok (.ireturn, 1) := by decide +kernel
theorem dX7_packing_0 : decode cX7_packing 0 = .ok (.iload_n 1, 1) := by decide +kernel
theorem dX7_packing_1 : decode cX7_packing 1 = .ok (.iconst 0, 1) := by decide +kernel
theorem dX7_packing_2 : decode cX7_packing 2 = .ok (.iconst 2, 1) := by decide +kernel
theorem dX7_packing_3 : decode cX7_packing 3 = .ok (.invokestatic 70, 3) := by decide +kernel
theorem dX7_packing_6 : decode cX7_packing 6 = .ok (.ifCond .ne 5, 3) := by decide +kernel
theorem dX7_packing_9 : decode cX7_packing 9 = .ok (.iconst (-1), 1) := by decide +kernel
theorem dX7_packing_10 : decode cX7_packing 10 = .ok (.ireturn, 1) := by decide +kernel
theorem dX7_packing_11 : decode cX7_packing 11 = .ok (.aload_n 0, 1) := by decide +kernel
theorem dX7_packing_12 : decode cX7_packing 12 = .ok (.getfield 44, 3) := by decide +kernel
theorem dX7_packing_15 : decode cX7_packing 15 = .ok (.invokevirtual 201, 3) := by decide +kernel
theorem dX7_packing_18 : decode cX7_packing 18 = .ok (.aload_n 0, 1) := by decide +kernel
theorem dX7_packing_19 : decode cX7_packing 19 = .ok (.getfield 37, 3) := by decide +kernel
theorem dX7_packing_22 : decode cX7_packing 22 = .ok (.aload_n 0, 1) := by decide +kernel
theorem dX7_packing_23 : decode cX7_packing 23 = .ok (.invokevirtual 204, 3) := by decide +kernel
theorem dX7_packing_26 : decode cX7_packing 26 = .ok (.aload_n 0, 1) := by decide +kernel
theorem dX7_packing_27 : decode cX7_packing 27 = .ok (.getfield 19, 3) := by decide +kernel
theorem dX7_packing_30 : decode cX7_packing 30 = .ok (.getfield 115, 3) := by decide +kernel
theorem dX7_packing_33 : decode cX7_packing 33 = .ok (.invokevirtual 208, 3) := by decide +kernel
theorem dX7_packing_36 : decode cX7_packing 36 = .ok (.aload_n 0, 1) := by decide +kernel
theorem dX7_packing_37 : decode cX7_packing 37 = .ok (.getfield 37, 3) := by decide +kernel
theorem dX7_packing_40 : decode cX7_packing 40 = .ok (.invokevirtual 212, 3) := by decide +kernel
theorem dX7_packing_43 : decode cX7_packing 43 = .ok (.aload_n 0, 1) := by decide +kernel
theorem dX7_packing_44 : decode cX7_packing 44 = .ok (.invokevirtual 215, 3) := by decide +kernel
theorem dX7_packing_47 : decode cX7_packing 47 = .ok (.iload_n 1, 1) := by decide +kernel
theorem dX7_packing_48 : decode cX7_packing 48 = .ok (.lookupswitch 44 #[(0, 28), (1, 36)], 28) := by decide +kernel
theorem dX7_packing_76 : decode cX7_packing 76 = .ok (.aload_n 0, 1) := by decide +kernel
theorem dX7_packing_77 : decode cX7_packing 77 = .ok (.getfield 44, 3) := by decide +kernel
theorem dX7_packing_80 : decode cX7_packing 80 = .ok (.getfield 192, 3) := by decide +kernel
theorem dX7_packing_83 : decode cX7_packing 83 = .ok (.ireturn, 1) := by decide +kernel
theorem dX7_packing_84 : decode cX7_packing 84 = .ok (.aload_n 0, 1) := by decide +kernel
theorem dX7_packing_85 : decode cX7_packing 85 = .ok (.getfield 44, 3) := by decide +kernel
theorem dX7_packing_88 : decode cX7_packing 88 = .ok (.getfield 195, 3) := by decide +kernel
theorem dX7_packing_91 : decode cX7_packing 91 = .ok (.ireturn, 1) := by decide +kernel
theorem dX7_packing_92 : decode cX7_packing 92 = .ok (.aload_n 0, 1) := by decide +kernel
theorem dX7_packing_93 : decode cX7_packing 93 = .ok (.getfield 44, 3) := by decide +kernel
theorem dX7_packing_96 : decode cX7_packing 96 = .ok (.getfield 198, 3) := by decide +kernel
theorem dX7_packing_99 : decode cX7_packing 99 = .ok (.ireturn, 1) := by decide +kernel
theorem dX7_soonest_0 : decode cX7_soonest 0 = .ok (.iload_n 1, 1) := by decide +kernel
theorem dX7_soonest_1 : decode cX7_soonest 1 = .ok (.iconst 0, 1) := by decide +kernel
theorem dX7_soonest_2 : decode cX7_soonest 2 = .ok (.iconst 1, 1) := by decide +kernel
theorem dX7_soonest_3 : decode cX7_soonest 3 = .ok (.invokestatic 70, 3) := by decide +kernel
theorem dX7_soonest_6 : decode cX7_soonest 6 = .ok (.ifCond .ne 5, 3) := by decide +kernel
theorem dX7_soonest_9 : decode cX7_soonest 9 = .ok (.iconst (-1), 1) := by decide +kernel
theorem dX7_soonest_10 : decode cX7_soonest 10 = .ok (.ireturn, 1) := by decide +kernel
theorem dX7_soonest_11 : decode cX7_soonest 11 = .ok (.aload_n 0, 1) := by decide +kernel
theorem dX7_soonest_12 : decode cX7_soonest 12 = .ok (.getfield 19, 3) := by decide +kernel
theorem dX7_soonest_15 : decode cX7_soonest 15 = .ok (.getfield 109, 3) := by decide +kernel
theorem dX7_soonest_18 : decode cX7_soonest 18 = .ok (.istore_n 2, 1) := by decide +kernel
theorem dX7_soonest_19 : decode cX7_soonest 19 = .ok (.iload_n 2, 1) := by decide +kernel
theorem dX7_soonest_20 : decode cX7_soonest 20 = .ok (.invokestatic 218, 3) := by decide +kernel
theorem dX7_soonest_23 : decode cX7_soonest 23 = .ok (.istore_n 3, 1) := by decide +kernel
theorem dX7_soonest_24 : decode cX7_soonest 24 = .ok (.iconst 0, 1) := by decide +kernel
theorem dX7_soonest_25 : decode cX7_soonest 25 = .ok (.istore 4, 2) := by decide +kernel
theorem dX7_soonest_27 : decode cX7_soonest 27 = .ok (.iconst 0, 1) := by decide +kernel
theorem dX7_soonest_28 : decode cX7_soonest 28 = .ok (.istore 5, 2) := by decide +kernel
theorem dX7_soonest_30 : decode cX7_soonest 30 = .ok (.aload_n 0, 1) := by decide +kernel
theorem dX7_soonest_31 : decode cX7_soonest 31 = .ok (.invokevirtual 221, 3) := by decide +kernel
theorem dX7_soonest_34 : decode cX7_soonest 34 = .ok (.iconst 0, 1) := by decide +kernel
theorem dX7_soonest_35 : decode cX7_soonest 35 = .ok (.istore 6, 2) := by decide +kernel
theorem dX7_soonest_37 : decode cX7_soonest 37 = .ok (.iload 6, 2) := by decide +kernel
theorem dX7_soonest_39 : decode cX7_soonest 39 = .ok (.iload_n 3, 1) := by decide +kernel
theorem dX7_soonest_40 : decode cX7_soonest 40 = .ok (.if_icmp .ge 73, 3) := by decide +kernel
theorem dX7_soonest_43 : decode cX7_soonest 43 = .ok (.aload_n 0, 1) := by decide +kernel
theorem dX7_soonest_44 : decode cX7_soonest 44 = .ok (.getfield 37, 3) := by decide +kernel
theorem dX7_soonest_47 : decode cX7_soonest 47 = .ok (.invokevirtual 212, 3) := by decide +kernel
theorem dX7_soonest_50 : decode cX7_soonest 50 = .ok (.aload_n 0, 1) := by decide +kernel
theorem dX7_soonest_51 : decode cX7_soonest 51 = .ok (.getfield 37, 3) := by decide +kernel
theorem dX7_soonest_54 : decode cX7_soonest 54 = .ok (.invokevirtual 224, 3) := by decide +kernel
theorem dX7_soonest_57 : decode cX7_soonest 57 = .ok (.iload 6, 2) := by decide +kernel
theorem dX7_soonest_59 : decode cX7_soonest 59 = .ok (.ifCond .eq 15, 3) := by decide +kernel
theorem dX7_soonest_62 : decode cX7_soonest 62 = .ok (.aload_n 0, 1) := by decide +kernel
theorem dX7_soonest_63 : decode cX7_soonest 63 = .ok (.getfield 37, 3) := by decide +kernel
theorem dX7_soonest_66 : decode cX7_soonest 66 = .ok (.getfield 168, 3) := by decide +kernel
theorem dX7_soonest_69 : decode cX7_soonest 69 = .ok (.iload 4, 2) := by decide +kernel
theorem dX7_soonest_71 : decode cX7_soonest 71 = .ok (.if_icmp .ge 25, 3) := by decide +kernel
theorem dX7_soonest_74 : decode cX7_soonest 74 = .ok (.aload_n 0, 1) := by decide +kernel
theorem dX7_soonest_75 : decode cX7_soonest 75 = .ok (.getfield 37, 3) := by decide +kernel
theorem dX7_soonest_78 : decode cX7_soonest 78 = .ok (.getfield 168, 3) := by decide +kernel
theorem dX7_soonest_81 : decode cX7_soonest 81 = .ok (.istore 4, 2) := by decide +kernel
theorem dX7_soonest_83 : decode cX7_soonest 83 = .ok (.aload_n 0, 1) := by decide +kernel
theorem dX7_soonest_84 : decode cX7_soonest 84 = .ok (.getfield 37, 3) := by decide +kernel
theorem dX7_soonest_87 : decode cX7_soonest 87 = .ok (.getfield 227, 3) := by decide +kernel
theorem dX7_soonest_90 : decode cX7_soonest 90 = .ok (.iload_n 2, 1) := by decide +kernel
theorem dX7_soonest_91 : decode cX7_soonest 91 = .ok (.invokestatic 122, 3) := by decide +kernel
theorem dX7_soonest_94 : decode cX7_soonest 94 = .ok (.istore 5, 2) := by decide +kernel
theorem dX7_soonest_96 : decode cX7_soonest 96 = .ok (.aload_n 0, 1) := by decide +kernel
theorem dX7_soonest_97 : decode cX7_soonest 97 = .ok (.getfield 37, 3) := by decide +kernel
theorem dX7_soonest_100 : decode cX7_soonest 100 = .ok (.getfield 227, 3) := by decide +kernel
theorem dX7_soonest_103 : decode cX7_soonest 103 = .ok (.iload_n 2, 1) := by decide +kernel
theorem dX7_soonest_104 : decode cX7_soonest 104 = .ok (.invokestatic 230, 3) := by decide +kernel
theorem dX7_soonest_107 : decode cX7_soonest 107 = .ok (.iinc 6 1, 3) := by decide +kernel
theorem dX7_soonest_110 : decode cX7_soonest 110 = .ok (.goto (-73), 3) := by decide +kernel
theorem dX7_soonest_113 : decode cX7_soonest 113 = .ok (.iload_n 1, 1) := by decide +kernel
theorem dX7_soonest_114 : decode cX7_soonest 114 = .ok (.ifCond .ne 8, 3) := by decide +kernel
theorem dX7_soonest_117 : decode cX7_soonest 117 = .ok (.iload 4, 2) := by decide +kernel
theorem dX7_soonest_119 : decode cX7_soonest 119 = .ok (.goto 5, 3) := by decide +kernel
theorem dX7_soonest_122 : decode cX7_soonest 122 = .ok (.iload 5, 2) := by decide +kernel
theorem dX7_soonest_124 : decode cX7_soonest 124 = .ok (.ireturn, 1) := by decide +kernel
theorem dX7_two_0 : decode cX7_two 0 = .ok (.iload_n 1, 1) := by decide +kernel
theorem dX7_two_1 : decode cX7_two 1 = .ok (.iconst 0, 1) := by decide +kernel
theorem dX7_two_2 : decode cX7_two 2 = .ok (.aload_n 0, 1) := by decide +kernel
theorem dX7_two_3 : decode cX7_two 3 = .ok (.invokevirtual 204, 3) := by decide +kernel
theorem dX7_two_6 : decode cX7_two 6 = .ok (.invokestatic 70, 3) := by decide +kernel
theorem dX7_two_9 : decode cX7_two 9 = .ok (.ifCond .eq 12, 3) := by decide +kernel
theorem dX7_two_12 : decode cX7_two 12 = .ok (.iload_n 2, 1) := by decide +kernel
theorem dX7_two_13 : decode cX7_two 13 = .ok (.iconst 0, 1) := by decide +kernel
theorem dX7_two_14 : decode cX7_two 14 = .ok (.iconst 1, 1) := by decide +kernel
theorem dX7_two_15 : decode cX7_two 15 = .ok (.invokestatic 70, 3) := by decide +kernel
theorem dX7_two_18 : decode cX7_two 18 = .ok (.ifCond .ne 5, 3) := by decide +kernel
theorem dX7_two_21 : decode cX7_two 21 = .ok (.iconst (-1), 1) := by decide +kernel
theorem dX7_two_22 : decode cX7_two 22 = .ok (.ireturn, 1) := by decide +kernel
theorem dX7_two_23 : decode cX7_two 23 = .ok (.aload_n 0, 1) := by decide +kernel
theorem dX7_two_24 : decode cX7_two 24 = .ok (.iload_n 1, 1) := by decide +kernel
theorem dX7_two_25 : decode cX7_two 25 = .ok (.invokevirtual 234, 3) := by decide +kernel
theorem dX7_two_28 : decode cX7_two 28 = .ok (.istore_n 3, 1) := by decide +kernel
theorem dX7_two_29 : decode cX7_two 29 = .ok (.iload_n 2, 1) := by decide +kernel
theorem dX7_two_30 : decode cX7_two 30 = .ok (.ifCond .ne 7, 3) := by decide +kernel
theorem dX7_two_33 : decode cX7_two 33 = .ok (.iload_n 3, 1) := by decide +kernel
theorem dX7_two_34 : decode cX7_two 34 = .ok (.goto 10, 3) := by decide +kernel
theorem dX7_two_37 : decode cX7_two 37 = .ok (.aload_n 0, 1) := by decide +kernel
theorem dX7_two_38 : decode cX7_two 38 = .ok (.getfield 37, 3) := by decide +kernel
theorem dX7_two_41 : decode cX7_two 41 = .ok (.getfield 168, 3) := by decide +kernel
theorem dX7_two_44 : decode cX7_two 44 = .ok (.ireturn, 1) := by decide +kernel
theorem dX7_split_0 : decode cX7_split 0 = .ok (.iload_n 1, 1) := by decide +kernel
theorem dX7_split_1 : decode cX7_split 1 = .ok (.iconst 0, 1) := by decide +kernel
theorem dX7_split_2 : decode cX7_split 2 = .ok (.iconst 2, 1) := by decide +kernel
theorem dX7_split_3 : decode cX7_split 3 = .ok (.invokestatic 70, 3) := by decide +kernel
theorem dX7_split_6 : decode cX7_split 6 = .ok (.ifCond .ne 5, 3) := by decide +kernel
theorem dX7_split_9 : decode cX7_split 9 = .ok (.iconst (-1), 1) := by decide +kernel
theorem dX7_split_10 : decode cX7_split 10 = .ok (.ireturn, 1) := by decide +kernel
theorem dX7_split_11 : decode cX7_split 11 = .ok (.aload_n 0, 1) := by decide +kernel
theorem dX7_split_12 : decode cX7_split 12 = .ok (.getfield 44, 3) := by decide +kernel
theorem dX7_split_15 : decode cX7_split 15 = .ok (.invokevirtual 201, 3) := by decide +kernel
theorem dX7_split_18 : decode cX7_split 18 = .ok (.aload_n 0, 1) := by decide +kernel
theorem dX7_split_19 : decode cX7_split 19 = .ok (.invokevirtual 204, 3) := by decide +kernel
theorem dX7_split_22 : decode cX7_split 22 = .ok (.istore_n 2, 1) := by decide +kernel
theorem dX7_split_23 : decode cX7_split 23 = .ok (.iconst 0, 1) := by decide +kernel
theorem dX7_split_24 : decode cX7_split 24 = .ok (.istore_n 3, 1) := by decide +kernel
theorem dX7_split_25 : decode cX7_split 25 = .ok (.iload_n 3, 1) := by decide +kernel
theorem dX7_split_26 : decode cX7_split 26 = .ok (.iload_n 2, 1) := by decide +kernel
theorem dX7_split_27 : decode cX7_split 27 = .ok (.if_icmp .gt 53, 3) := by decide +kernel
theorem dX7_split_30 : decode cX7_split 30 = .ok (.aload_n 0, 1) := by decide +kernel
theorem dX7_split_31 : decode cX7_split 31 = .ok (.iload_n 3, 1) := by decide +kernel
theorem dX7_split_32 : decode cX7_split 32 = .ok (.invokevirtual 234, 3) := by decide +kernel
theorem dX7_split_35 : decode cX7_split 35 = .ok (.istore 4, 2) := by decide +kernel
theorem dX7_split_37 : decode cX7_split 37 = .ok (.aload_n 0, 1) := by decide +kernel
theorem dX7_split_38 : decode cX7_split 38 = .ok (.getfield 44, 3) := by decide +kernel
theorem dX7_split_41 : decode cX7_split 41 = .ok (.iload 4, 2) := by decide +kernel
theorem dX7_split_43 : decode cX7_split 43 = .ok (.aload_n 0, 1) := by decide +kernel
theorem dX7_split_44 : decode cX7_split 44 = .ok (.getfield 37, 3) := by decide +kernel
theorem dX7_split_47 : decode cX7_split 47 = .ok (.getfield 168, 3) := by decide +kernel
theorem dX7_split_50 : decode cX7_split 50 = .ok (.invokevirtual 237, 3) := by decide +kernel
theorem dX7_split_53 : decode cX7_split 53 = .ok (.ifCond .eq 21, 3) := by decide +kernel
theorem dX7_split_56 : decode cX7_split 56 = .ok (.aload_n 0, 1) := by decide +kernel
theorem dX7_split_57 : decode cX7_split 57 = .ok (.getfield 44, 3) := by decide +kernel
theorem dX7_split_60 : decode cX7_split 60 = .ok (.iload 4, 2) := by decide +kernel
theorem dX7_split_62 : decode cX7_split 62 = .ok (.aload_n 0, 1) := by decide +kernel
theorem dX7_split_63 : decode cX7_split 63 = .ok (.getfield 37, 3) := by decide +kernel
theorem dX7_split_66 : decode cX7_split 66 = .ok (.getfield 168, 3) := by decide +kernel
theorem dX7_split_69 : decode cX7_split 69 = .ok (.iconst 0, 1) := by decide +kernel
theorem dX7_split_70 : decode cX7_split 70 = .ok (.iload_n 3, 1) := by decide +kernel
theorem dX7_split_71 : decode cX7_split 71 = .ok (.invokevirtual 241, 3) := by decide +kernel
theorem dX7_split_74 : decode cX7_split 74 = .ok (.iinc 3 1, 3) := by decide +kernel
theorem dX7_split_77 : decode cX7_split 77 = .ok (.goto (-52), 3) := by decide +kernel
theorem dX7_split_80 : decode cX7_split 80 = .ok (.iload_n 1, 1) := by decide +kernel
theorem dX7_split_81 : decode cX7_split 81 = .ok (.lookupswitch 43 #[(0, 27), (1, 35)], 27) := by decide +kernel
theorem dX7_split_108 : decode cX7_split 108 = .ok (.aload_n 0, 1) := by decide +kernel
theorem dX7_split_109 : decode cX7_split 109 = .ok (.getfield 44, 3) := by decide +kernel
theorem dX7_split_112 : decode cX7_split 112 = .ok (.getfield 198, 3) := by decide +kernel
theorem dX7_split_115 : decode cX7_split 115 = .ok (.ireturn, 1) := by decide +kernel
theorem dX7_split_116 : decode cX7_split 116 = .ok (.aload_n 0, 1) := by decide +kernel
theorem dX7_split_117 : decode cX7_split 117 = .ok (.getfield 44, 3) := by decide +kernel
theorem dX7_split_120 : decode cX7_split 120 = .ok (.getfield 192, 3) := by decide +kernel
theorem dX7_split_123 : decode cX7_split 123 = .ok (.ireturn, 1) := by decide +kernel
theorem dX7_split_124 : decode cX7_split 124 = .ok (.aload_n 0, 1) := by decide +kernel
theorem dX7_split_125 : decode cX7_split 125 = .ok (.getfield 44, 3) := by decide +kernel
theorem dX7_split_128 : decode cX7_split 128 = .ok (.getfield 195, 3) := by decide +kernel
theorem dX7_split_131 : decode cX7_split 131 = .ok (.ireturn, 1) := by decide +kernel
theorem dX7_strength_0 : decode cX7_strength 0 = .ok (.aload_n 0, 1) := by decide +kernel
theorem dX7_strength_1 : decode cX7_strength 1 = .ok (.getfield 37, 3) := by decide +kernel
theorem dX7_strength_4 : decode cX7_strength 4 = .ok (.aload_n 0, 1) := by decide +kernel
theorem dX7_strength_5 : decode cX7_strength 5 = .ok (.invokevirtual 204, 3) := by decide +kernel
theorem dX7_strength_8 : decode cX7_strength 8 = .ok (.aload_n 0, 1) := by decide +kernel
theorem dX7_strength_9 : decode cX7_strength 9 = .ok (.getfield 19, 3) := by decide +kernel
theorem dX7_strength_12 : decode cX7_strength 12 = .ok (.getfield 115, 3) := by decide +kernel
theorem dX7_strength_15 : decode cX7_strength 15 = .ok (.invokevirtual 208, 3) := by decide +kernel
theorem dX7_strength_18 : decode cX7_strength 18 = .ok (.aload_n 0, 1) := by decide +kernel
theorem dX7_strength_19 : decode cX7_strength 19 = .ok (.getfield 37, 3) := by decide +kernel
theorem dX7_strength_22 : decode cX7_strength 22 = .ok (.invokevirtual 244, 3) := by decide +kernel
theorem dX7_strength_25 : decode cX7_strength 25 = .ok (.iconst 0, 1) := by decide +kernel
theorem dX7_strength_26 : decode cX7_strength 26 = .ok (.istore_n 1, 1) := by decide +kernel
theorem dX7_strength_27 : decode cX7_strength 27 = .ok (.iload_n 1, 1) := by decide +kernel
theorem dX7_strength_28 : decode cX7_strength 28 = .ok (.bipush 60, 2) := by decide +kernel
theorem dX7_strength_30 : decode cX7_strength 30 = .ok (.if_icmp .gt 43, 3) := by decide +kernel
theorem dX7_strength_33 : decode cX7_strength 33 = .ok (.aload_n 0, 1) := by decide +kernel
theorem dX7_strength_34 : decode cX7_strength 34 = .ok (.getfield 37, 3) := by decide +kernel
theorem dX7_strength_37 : decode cX7_strength 37 = .ok (.iload_n 1, 1) := by decide +kernel
theorem dX7_strength_38 : decode cX7_strength 38 = .ok (.putfield 247, 3) := by decide +kernel
theorem dX7_strength_41 : decode cX7_strength 41 = .ok (.aload_n 0, 1) := by decide +kernel
theorem dX7_strength_42 : decode cX7_strength 42 = .ok (.getfield 37, 3) := by decide +kernel
theorem dX7_strength_45 : decode cX7_strength 45 = .ok (.invokevirtual 212, 3) := by decide +kernel
theorem dX7_strength_48 : decode cX7_strength 48 = .ok (.aload_n 0, 1) := by decide +kernel
theorem dX7_strength_49 : decode cX7_strength 49 = .ok (.getfield 37, 3) := by decide +kernel
theorem dX7_strength_52 : decode cX7_strength 52 = .ok (.invokevirtual 224, 3) := by decide +kernel
theorem dX7_strength_55 : decode cX7_strength 55 = .ok (.aload_n 0, 1) := by decide +kernel
theorem dX7_strength_56 : decode cX7_strength 56 = .ok (.getfield 37, 3) := by decide +kernel
theorem dX7_strength_59 : decode cX7_strength 59 = .ok (.getfield 174, 3) := by decide +kernel
theorem dX7_strength_62 : decode cX7_strength 62 = .ok (.ifCond .ne 5, 3) := by decide +kernel
theorem dX7_strength_65 : decode cX7_strength 65 = .ok (.iload_n 1, 1) := by decide +kernel
theorem dX7_strength_66 : decode cX7_strength 66 = .ok (.ireturn, 1) := by decide +kernel
theorem dX7_strength_67 : decode cX7_strength 67 = .ok (.iinc 1 1, 3) := by decide +kernel
theorem dX7_strength_70 : decode cX7_strength 70 = .ok (.goto (-43), 3) := by decide +kernel
theorem dX7_strength_73 : decode cX7_strength 73 = .ok (.bipush (-4), 2) := by decide +kernel
theorem dX7_strength_75 : decode cX7_strength 75 = .ok (.ireturn, 1) := by decide +kernel
theorem dX7_latest_0 : decode cX7_latest 0 = .ok (.aload_n 0, 1) := by decide +kernel
theorem dX7_latest_1 : decode cX7_latest 1 = .ok (.getfield 37, 3) := by decide +kernel
theorem dX7_latest_4 : decode cX7_latest 4 = .ok (.aload_n 0, 1) := by decide +kernel
theorem dX7_latest_5 : decode cX7_latest 5 = .ok (.invokevirtual 204, 3) := by decide +kernel
theorem dX7_latest_8 : decode cX7_latest 8 = .ok (.aload_n 0, 1) := by decide +kernel
theorem dX7_latest_9 : decode cX7_latest 9 = .ok (.getfield 19, 3) := by decide +kernel
theorem dX7_latest_12 : decode cX7_latest 12 = .ok (.getfield 115, 3) := by decide +kernel
theorem dX7_latest_15 : decode cX7_latest 15 = .ok (.invokevirtual 208, 3) := by decide +kernel
theorem dX7_latest_18 : decode cX7_latest 18 = .ok (.aload_n 0, 1) := by decide +kernel
theorem dX7_latest_19 : decode cX7_latest 19 = .ok (.getfield 37, 3) := by decide +kernel
theorem dX7_latest_22 : decode cX7_latest 22 = .ok (.invokevirtual 244, 3) := by decide +kernel
theorem dX7_latest_25 : decode cX7_latest 25 = .ok (.bipush 60, 2) := by decide +kernel
theorem dX7_latest_27 : decode cX7_latest 27 = .ok (.istore_n 1, 1) := by decide +kernel
theorem dX7_latest_28 : decode cX7_latest 28 = .ok (.iload_n 1, 1) := by decide +kernel
theorem dX7_latest_29 : decode cX7_latest 29 = .ok (.ifCond .lt 43, 3) := by decide +kernel
theorem dX7_latest_32 : decode cX7_latest 32 = .ok (.aload_n 0, 1) := by decide +kernel
theorem dX7_latest_33 : decode cX7_latest 33 = .ok (.getfield 37, 3) := by decide +kernel
theorem dX7_latest_36 : decode cX7_latest 36 = .ok (.iload_n 1, 1) := by decide +kernel
theorem dX7_latest_37 : decode cX7_latest 37 = .ok (.putfield 248, 3) := by decide +kernel
theorem dX7_latest_40 : decode cX7_latest 40 = .ok (.aload_n 0, 1) := by decide +kernel
theorem dX7_latest_41 : decode cX7_latest 41 = .ok (.getfield 37, 3) := by decide +kernel
theorem dX7_latest_44 : decode cX7_latest 44 = .ok (.invokevirtual 212, 3) := by decide +kernel
theorem dX7_latest_47 : decode cX7_latest 47 = .ok (.aload_n 0, 1) := by decide +kernel
theorem dX7_latest_48 : decode cX7_latest 48 = .ok (.getfield 37, 3) := by decide +kernel
theorem dX7_latest_51 : decode cX7_latest 51 = .ok (.invokevirtual 224, 3) := by decide +kernel
theorem dX7_latest_54 : decode cX7_latest 54 = .ok (.aload_n 0, 1) := by decide +kernel
theorem dX7_latest_55 : decode cX7_latest 55 = .ok (.getfield 37, 3) := by decide +kernel
theorem dX7_latest_58 : decode cX7_latest 58 = .ok (.getfield 174, 3) := by decide +kernel
theorem dX7_latest_61 : decode cX7_latest 61 = .ok (.ifCond .ne 5, 3) := by decide +kernel
theorem dX7_latest_64 : decode cX7_latest 64 = .ok (.iload_n 1, 1) := by decide +kernel
theorem dX7_latest_65 : decode cX7_latest 65 = .ok (.ireturn, 1) := by decide +kernel
theorem dX7_latest_66 : decode cX7_latest 66 = .ok (.iinc 1 (-1), 3) := by decide +kernel
theorem dX7_latest_69 : decode cX7_latest 69 = .ok (.goto (-41), 3) := by decide +kernel
theorem dX7_latest_72 : decode cX7_latest 72 = .ok (.bipush (-4), 2) := by decide +kernel
theorem dX7_latest_74 : decode cX7_latest 74 = .ok (.ireturn, 1) := by decide +kernel
theorem dX7_leave_0 : decode cX7_leave 0 = .ok (.iload_n 1, 1) := by decide +kernel
theorem dX7_leave_1 : decode cX7_leave 1 = .ok (.iconst 0, 1) := by decide +kernel
theorem dX7_leave_2 : decode cX7_leave 2 = .ok (.iconst 1, 1) := by decide +kernel
theorem dX7_leave_3 : decode cX7_leave 3 = .ok (.invokestatic 70, 3) := by decide +kernel
theorem dX7_leave_6 : decode cX7_leave 6 = .ok (.ifCond .ne 5, 3) := by decide +kernel
theorem dX7_leave_9 : decode cX7_leave 9 = .ok (.iconst (-1), 1) := by decide +kernel
theorem dX7_leave_10 : decode cX7_leave 10 = .ok (.ireturn, 1) := by decide +kernel
theorem dX7_leave_11 : decode cX7_leave 11 = .ok (.aload_n 0, 1) := by decide +kernel
theorem dX7_leave_12 : decode cX7_leave 12 = .ok (.invokevirtual 162, 3) := by decide +kernel
theorem dX7_leave_15 : decode cX7_leave 15 = .ok (.aload_n 0, 1) := by decide +kernel
theorem dX7_leave_16 : decode cX7_leave 16 = .ok (.invokevirtual 204, 3) := by decide +kernel
theorem dX7_leave_19 : decode cX7_leave 19 = .ok (.istore_n 2, 1) := by decide +kernel
theorem dX7_leave_20 : decode cX7_leave 20 = .ok (.aload_n 0, 1) := by decide +kernel
theorem dX7_leave_21 : decode cX7_leave 21 = .ok (.getfield 37, 3) := by decide +kernel
theorem dX7_leave_24 : decode cX7_leave 24 = .ok (.invokevirtual 249, 3) := by decide +kernel
theorem dX7_leave_27 : decode cX7_leave 27 = .ok (.istore_n 3, 1) := by decide +kernel
theorem dX7_leave_28 : decode cX7_leave 28 = .ok (.bipush (-4), 2) := by decide +kernel
theorem dX7_leave_30 : decode cX7_leave 30 = .ok (.istore 4, 2) := by decide +kernel
theorem dX7_leave_32 : decode cX7_leave 32 = .ok (.bipush (-4), 2) := by decide +kernel
theorem dX7_leave_34 : decode cX7_leave 34 = .ok (.istore 5, 2) := by decide +kernel
theorem dX7_leave_36 : decode cX7_leave 36 = .ok (.iconst 0, 1) := by decide +kernel
theorem dX7_leave_37 : decode cX7_leave 37 = .ok (.istore 6, 2) := by decide +kernel
theorem dX7_leave_39 : decode cX7_leave 39 = .ok (.iload 6, 2) := by decide +kernel
theorem dX7_leave_41 : decode cX7_leave 41 = .ok (.aload_n 0, 1) := by decide +kernel
theorem dX7_leave_42 : decode cX7_leave 42 = .ok (.getfield 19, 3) := by decide +kernel
theorem dX7_leave_45 : decode cX7_leave 45 = .ok (.getfield 109, 3) := by decide +kernel
theorem dX7_leave_48 : decode cX7_leave 48 = .ok (.if_icmp .ge 65, 3) := by decide +kernel
theorem dX7_leave_51 : decode cX7_leave 51 = .ok (.iload_n 2, 1) := by decide +kernel
theorem dX7_leave_52 : decode cX7_leave 52 = .ok (.iconst 1, 1) := by decide +kernel
theorem dX7_leave_53 : decode cX7_leave 53 = .ok (.iload 6, 2) := by decide +kernel
theorem dX7_leave_55 : decode cX7_leave 55 = .ok (.ishl, 1) := by decide +kernel
theorem dX7_leave_56 : decode cX7_leave 56 = .ok (.iconst (-1), 1) := by decide +kernel
theorem dX7_leave_57 : decode cX7_leave 57 = .ok (.ixor, 1) := by decide +kernel
theorem dX7_leave_58 : decode cX7_leave 58 = .ok (.iand, 1) := by decide +kernel
theorem dX7_leave_59 : decode cX7_leave 59 = .ok (.istore 7, 2) := by decide +kernel
theorem dX7_leave_61 : decode cX7_leave 61 = .ok (.aload_n 0, 1) := by decide +kernel
theorem dX7_leave_62 : decode cX7_leave 62 = .ok (.iload 7, 2) := by decide +kernel
theorem dX7_leave_64 : decode cX7_leave 64 = .ok (.aload_n 0, 1) := by decide +kernel
theorem dX7_leave_65 : decode cX7_leave 65 = .ok (.getfield 19, 3) := by decide +kernel
theorem dX7_leave_68 : decode cX7_leave 68 = .ok (.getfield 115, 3) := by decide +kernel
theorem dX7_leave_71 : decode cX7_leave 71 = .ok (.invokevirtual 252, 3) := by decide +kernel
theorem dX7_leave_74 : decode cX7_leave 74 = .ok (.istore 8, 2) := by decide +kernel
theorem dX7_leave_76 : decode cX7_leave 76 = .ok (.iload 8, 2) := by decide +kernel
theorem dX7_leave_78 : decode cX7_leave 78 = .ok (.aload_n 0, 1) := by decide +kernel
theorem dX7_leave_79 : decode cX7_leave 79 = .ok (.getfield 19, 3) := by decide +kernel
theorem dX7_leave_82 : decode cX7_leave 82 = .ok (.iload_n 3, 1) := by decide +kernel
theorem dX7_leave_83 : decode cX7_leave 83 = .ok (.iload 7, 2) := by decide +kernel
theorem dX7_leave_85 : decode cX7_leave 85 = .ok (.iand, 1) := by decide +kernel
theorem dX7_leave_86 : decode cX7_leave 86 = .ok (.invokevirtual 255, 3) := by decide +kernel
theorem dX7_leave_89 : decode cX7_leave 89 = .ok (.if_icmp .le 18, 3) := by decide +kernel
theorem dX7_leave_92 : decode cX7_leave 92 = .ok (.iload 8, 2) := by decide +kernel
theorem dX7_leave_94 : decode cX7_leave 94 = .ok (.iload 5, 2) := by decide +kernel
theorem dX7_leave_96 : decode cX7_leave 96 = .ok (.if_icmp .le 11, 3) := by decide +kernel
theorem dX7_leave_99 : decode cX7_leave 99 = .ok (.iload 6, 2) := by decide +kernel
theorem dX7_leave_101 : decode cX7_leave 101 = .ok (.istore 4, 2) := by decide +kernel
theorem dX7_leave_103 : decode cX7_leave 103 = .ok (.iload 8, 2) := by decide +kernel
theorem dX7_leave_105 : decode cX7_leave 105 = .ok (.istore 5, 2) := by decide +kernel
theorem dX7_leave_107 : decode cX7_leave 107 = .ok (.iinc 6 1, 3) := by decide +kernel
theorem dX7_leave_110 : decode cX7_leave 110 = .ok (.goto (-71), 3) := by decide +kernel
theorem dX7_leave_113 : decode cX7_leave 113 = .ok (.iload_n 1, 1) := by decide +kernel
theorem dX7_leave_114 : decode cX7_leave 114 = .ok (.ifCond .ne 8, 3) := by decide +kernel
theorem dX7_leave_117 : decode cX7_leave 117 = .ok (.iload 4, 2) := by decide +kernel
theorem dX7_leave_119 : decode cX7_leave 119 = .ok (.goto 5, 3) := by decide +kernel
theorem dX7_leave_122 : decode cX7_leave 122 = .ok (.iload 5, 2) := by decide +kernel
theorem dX7_leave_124 : decode cX7_leave 124 = .ok (.ireturn, 1) := by decide +kernel
theorem dX7_mean_0 : decode cX7_mean 0 = .ok (.iload_n 1, 1) := by decide +kernel
theorem dX7_mean_1 : decode cX7_mean 1 = .ok (.iconst 0, 1) := by decide +kernel
theorem dX7_mean_2 : decode cX7_mean 2 = .ok (.bipush 10, 2) := by decide +kernel
theorem dX7_mean_4 : decode cX7_mean 4 = .ok (.invokestatic 70, 3) := by decide +kernel
theorem dX7_mean_7 : decode cX7_mean 7 = .ok (.ifCond .eq 12, 3) := by decide +kernel
theorem dX7_mean_10 : decode cX7_mean 10 = .ok (.iload_n 2, 1) := by decide +kernel
theorem dX7_mean_11 : decode cX7_mean 11 = .ok (.iconst 0, 1) := by decide +kernel
theorem dX7_mean_12 : decode cX7_mean 12 = .ok (.iconst 1, 1) := by decide +kernel
theorem dX7_mean_13 : decode cX7_mean 13 = .ok (.invokestatic 70, 3) := by decide +kernel
theorem dX7_mean_16 : decode cX7_mean 16 = .ok (.ifCond .ne 7, 3) := by decide +kernel
theorem dX7_mean_19 : decode cX7_mean 19 = .ok (.ldc2_w 258, 3) := by decide +kernel
theorem dX7_mean_22 : decode cX7_mean 22 = .ok (.lreturn, 1) := by decide +kernel
theorem dX7_mean_23 : decode cX7_mean 23 = .ok (.aload_n 0, 1) := by decide +kernel
theorem dX7_mean_24 : decode cX7_mean 24 = .ok (.invokevirtual 162, 3) := by decide +kernel
theorem dX7_mean_27 : decode cX7_mean 27 = .ok (.aload_n 0, 1) := by decide +kernel
theorem dX7_mean_28 : decode cX7_mean 28 = .ok (.getfield 37, 3) := by decide +kernel
theorem dX7_mean_31 : decode cX7_mean 31 = .ok (.getfield 177, 3) := by decide +kernel
theorem dX7_mean_34 : decode cX7_mean 34 = .ok (.i2l, 1) := by decide +kernel
theorem dX7_mean_35 : decode cX7_mean 35 = .ok (.bipush 10, 2) := by decide +kernel
theorem dX7_mean_37 : decode cX7_mean 37 = .ok (.iload_n 1, 1) := by decide +kernel
theorem dX7_mean_38 : decode cX7_mean 38 = .ok (.isub, 1) := by decide +kernel
theorem dX7_mean_39 : decode cX7_mean 39 = .ok (.i2l, 1) := by decide +kernel
theorem dX7_mean_40 : decode cX7_mean 40 = .ok (.lmul, 1) := by decide +kernel
theorem dX7_mean_41 : decode cX7_mean 41 = .ok (.ldc2_w 260, 3) := by decide +kernel
theorem dX7_mean_44 : decode cX7_mean 44 = .ok (.iload_n 2, 1) := by decide +kernel
theorem dX7_mean_45 : decode cX7_mean 45 = .ok (.invokestatic 262, 3) := by decide +kernel
theorem dX7_mean_48 : decode cX7_mean 48 = .ok (.lreturn, 1) := by decide +kernel
theorem dX7_luck_0 : decode cX7_luck 0 = .ok (.iload_n 1, 1) := by decide +kernel
theorem dX7_luck_1 : decode cX7_luck 1 = .ok (.iconst 0, 1) := by decide +kernel
theorem dX7_luck_2 : decode cX7_luck 2 = .ok (.bipush 10, 2) := by decide +kernel
theorem dX7_luck_4 : decode cX7_luck 4 = .ok (.invokestatic 70, 3) := by decide +kernel
theorem dX7_luck_7 : decode cX7_luck 7 = .ok (.ifCond .eq 22, 3) := by decide +kernel
theorem dX7_luck_10 : decode cX7_luck 10 = .ok (.iload_n 2, 1) := by decide +kernel
theorem dX7_luck_11 : decode cX7_luck 11 = .ok (.iconst 0, 1) := by decide +kernel
theorem dX7_luck_12 : decode cX7_luck 12 = .ok (.bipush 45, 2) := by decide +kernel
theorem dX7_luck_14 : decode cX7_luck 14 = .ok (.invokestatic 70, 3) := by decide +kernel
theorem dX7_luck_17 : decode cX7_luck 17 = .ok (.ifCond .eq 12, 3) := by decide +kernel
theorem dX7_luck_20 : decode cX7_luck 20 = .ok (.iload_n 3, 1) := by decide +kernel
theorem dX7_luck_21 : decode cX7_luck 21 = .ok (.iconst 0, 1) := by decide +kernel
theorem dX7_luck_22 : decode cX7_luck 22 = .ok (.iconst 1, 1) := by decide +kernel
theorem dX7_luck_23 : decode cX7_luck 23 = .ok (.invokestatic 70, 3) := by decide +kernel
theorem dX7_luck_26 : decode cX7_luck 26 = .ok (.ifCond .ne 7, 3) := by decide +kernel
theorem dX7_luck_29 : decode cX7_luck 29 = .ok (.ldc2_w 258, 3) := by decide +kernel
theorem dX7_luck_32 : decode cX7_luck 32 = .ok (.lreturn, 1) := by decide +kernel
theorem dX7_luck_33 : decode cX7_luck 33 = .ok (.aload_n 0, 1) := by decide +kernel
theorem dX7_luck_34 : decode cX7_luck 34 = .ok (.invokevirtual 162, 3) := by decide +kernel
theorem dX7_luck_37 : decode cX7_luck 37 = .ok (.aload_n 0, 1) := by decide +kernel
theorem dX7_luck_38 : decode cX7_luck 38 = .ok (.getfield 37, 3) := by decide +kernel
theorem dX7_luck_41 : decode cX7_luck 41 = .ok (.invokevirtual 249, 3) := by decide +kernel
theorem dX7_luck_44 : decode cX7_luck 44 = .ok (.istore 4, 2) := by decide +kernel
theorem dX7_luck_46 : decode cX7_luck 46 = .ok (.aload_n 0, 1) := by decide +kernel
theorem dX7_luck_47 : decode cX7_luck 47 = .ok (.invokevirtual 204, 3) := by decide +kernel
theorem dX7_luck_50 : decode cX7_luck 50 = .ok (.istore 5, 2) := by decide +kernel
theorem dX7_luck_52 : decode cX7_luck 52 = .ok (.lconst 0, 1) := by decide +kernel
theorem dX7_luck_53 : decode cX7_luck 53 = .ok (.lstore 6, 2) := by decide +kernel
theorem dX7_luck_55 : decode cX7_luck 55 = .ok (.iconst 0, 1) := by decide +kernel
theorem dX7_luck_56 : decode cX7_luck 56 = .ok (.istore 8, 2) := by decide +kernel
theorem dX7_luck_58 : decode cX7_luck 58 = .ok (.iload 8, 2) := by decide +kernel
theorem dX7_luck_60 : decode cX7_luck 60 = .ok (.iload 5, 2) := by decide +kernel
theorem dX7_luck_62 : decode cX7_luck 62 = .ok (.if_icmp .gt 63, 3) := by decide +kernel
theorem dX7_luck_65 : decode cX7_luck 65 = .ok (.aload_n 0, 1) := by decide +kernel
theorem dX7_luck_66 : decode cX7_luck 66 = .ok (.getfield 19, 3) := by decide +kernel
theorem dX7_luck_69 : decode cX7_luck 69 = .ok (.iload 8, 2) := by decide +kernel
theorem dX7_luck_71 : decode cX7_luck 71 = .ok (.iload 4, 2) := by decide +kernel
theorem dX7_luck_73 : decode cX7_luck 73 = .ok (.iand, 1) := by decide +kernel
theorem dX7_luck_74 : decode cX7_luck 74 = .ok (.invokevirtual 255, 3) := by decide +kernel
theorem dX7_luck_77 : decode cX7_luck 77 = .ok (.iload_n 2, 1) := by decide +kernel
theorem dX7_luck_78 : decode cX7_luck 78 = .ok (.if_icmp .lt 41, 3) := by decide +kernel
theorem dX7_luck_81 : decode cX7_luck 81 = .ok (.iload 8, 2) := by decide +kernel
theorem dX7_luck_83 : decode cX7_luck 83 = .ok (.invokestatic 266, 3) := by decide +kernel
theorem dX7_luck_86 : decode cX7_luck 86 = .ok (.istore 9, 2) := by decide +kernel
theorem dX7_luck_88 : decode cX7_luck 88 = .ok (.lload 6, 2) := by decide +kernel
theorem dX7_luck_90 : decode cX7_luck 90 = .ok (.bipush 10, 2) := by decide +kernel
theorem dX7_luck_92 : decode cX7_luck 92 = .ok (.iload_n 1, 1) := by decide +kernel
theorem dX7_luck_93 : decode cX7_luck 93 = .ok (.isub, 1) := by decide +kernel
theorem dX7_luck_94 : decode cX7_luck 94 = .ok (.i2l, 1) := by decide +kernel
theorem dX7_luck_95 : decode cX7_luck 95 = .ok (.iload 9, 2) := by decide +kernel
theorem dX7_luck_97 : decode cX7_luck 97 = .ok (.invokestatic 271, 3) := by decide +kernel
theorem dX7_luck_100 : decode cX7_luck 100 = .ok (.iload_n 1, 1) := by decide +kernel
theorem dX7_luck_101 : decode cX7_luck 101 = .ok (.i2l, 1) := by decide +kernel
theorem dX7_luck_102 : decode cX7_luck 102 = .ok (.aload_n 0, 1) := by decide +kernel
theorem dX7_luck_103 : decode cX7_luck 103 = .ok (.getfield 19, 3) := by decide +kernel
theorem dX7_luck_106 : decode cX7_luck 106 = .ok (.getfield 109, 3) := by decide +kernel
theorem dX7_luck_109 : decode cX7_luck 109 = .ok (.iload 9, 2) := by decide +kernel
theorem dX7_luck_111 : decode cX7_luck 111 = .ok (.isub, 1) := by decide +kernel
theorem dX7_luck_112 : decode cX7_luck 112 = .ok (.invokestatic 271, 3) := by decide +kernel
theorem dX7_luck_115 : decode cX7_luck 115 = .ok (.lmul, 1) := by decide +kernel
theorem dX7_luck_116 : decode cX7_luck 116 = .ok (.ladd, 1) := by decide +kernel
theorem dX7_luck_117 : decode cX7_luck 117 = .ok (.lstore 6, 2) := by decide +kernel
theorem dX7_luck_119 : decode cX7_luck 119 = .ok (.iinc 8 1, 3) := by decide +kernel
theorem dX7_luck_122 : decode cX7_luck 122 = .ok (.goto (-64), 3) := by decide +kernel
theorem dX7_luck_125 : decode cX7_luck 125 = .ok (.lload 6, 2) := by decide +kernel
theorem dX7_luck_127 : decode cX7_luck 127 = .ok (.ldc2_w 260, 3) := by decide +kernel
theorem dX7_luck_130 : decode cX7_luck 130 = .ok (.aload_n 0, 1) := by decide +kernel
theorem dX7_luck_131 : decode cX7_luck 131 = .ok (.getfield 19, 3) := by decide +kernel
theorem dX7_luck_134 : decode cX7_luck 134 = .ok (.getfield 109, 3) := by decide +kernel
theorem dX7_luck_137 : decode cX7_luck 137 = .ok (.invokestatic 271, 3) := by decide +kernel
theorem dX7_luck_140 : decode cX7_luck 140 = .ok (.iload_n 3, 1) := by decide +kernel
theorem dX7_luck_141 : decode cX7_luck 141 = .ok (.invokestatic 262, 3) := by decide +kernel
theorem dX7_luck_144 : decode cX7_luck 144 = .ok (.lreturn, 1) := by decide +kernel
theorem dX7_see_0 : decode cX7_see 0 = .ok (.aload_n 0, 1) := by decide +kernel
theorem dX7_see_1 : decode cX7_see 1 = .ok (.iload_n 1, 1) := by decide +kernel
theorem dX7_see_2 : decode cX7_see 2 = .ok (.invokevirtual 137, 3) := by decide +kernel
theorem dX7_see_5 : decode cX7_see 5 = .ok (.ifCond .eq 14, 3) := by decide +kernel
theorem dX7_see_8 : decode cX7_see 8 = .ok (.iload_n 2, 1) := by decide +kernel
theorem dX7_see_9 : decode cX7_see 9 = .ok (.iconst 0, 1) := by decide +kernel
theorem dX7_see_10 : decode cX7_see 10 = .ok (.sipush 199, 3) := by decide +kernel
theorem dX7_see_13 : decode cX7_see 13 = .ok (.invokestatic 70, 3) := by decide +kernel
theorem dX7_see_16 : decode cX7_see 16 = .ok (.ifCond .ne 5, 3) := by decide +kernel
theorem dX7_see_19 : decode cX7_see 19 = .ok (.iconst (-1), 1) := by decide +kernel
theorem dX7_see_20 : decode cX7_see 20 = .ok (.ireturn, 1) := by decide +kernel
theorem dX7_see_21 : decode cX7_see 21 = .ok (.aload_n 0, 1) := by decide +kernel
theorem dX7_see_22 : decode cX7_see 22 = .ok (.getfield 51, 3) := by decide +kernel
theorem dX7_see_25 : decode cX7_see 25 = .ok (.getfield 100, 3) := by decide +kernel
theorem dX7_see_28 : decode cX7_see 28 = .ok (.bipush 6, 2) := by decide +kernel
theorem dX7_see_30 : decode cX7_see 30 = .ok (.if_icmp .lt 6, 3) := by decide +kernel
theorem dX7_see_33 : decode cX7_see 33 = .ok (.bipush (-3), 2) := by decide +kernel
theorem dX7_see_35 : decode cX7_see 35 = .ok (.ireturn, 1) := by decide +kernel
theorem dX7_see_36 : decode cX7_see 36 = .ok (.aload_n 0, 1) := by decide +kernel
theorem dX7_see_37 : decode cX7_see 37 = .ok (.getfield 51, 3) := by decide +kernel
theorem dX7_see_40 : decode cX7_see 40 = .ok (.iload_n 1, 1) := by decide +kernel
theorem dX7_see_41 : decode cX7_see 41 = .ok (.iload_n 2, 1) := by decide +kernel
theorem dX7_see_42 : decode cX7_see 42 = .ok (.invokevirtual 275, 3) := by decide +kernel
theorem dX7_see_45 : decode cX7_see 45 = .ok (.aload_n 0, 1) := by decide +kernel
theorem dX7_see_46 : decode cX7_see 46 = .ok (.getfield 51, 3) := by decide +kernel
theorem dX7_see_49 : decode cX7_see 49 = .ok (.getfield 100, 3) := by decide +kernel
theorem dX7_see_52 : decode cX7_see 52 = .ok (.ireturn, 1) := by decide +kernel
theorem dX7_forget_0 : decode cX7_forget 0 = .ok (.iload_n 1, 1) := by decide +kernel
theorem dX7_forget_1 : decode cX7_forget 1 = .ok (.iconst 0, 1) := by decide +kernel
theorem dX7_forget_2 : decode cX7_forget 2 = .ok (.aload_n 0, 1) := by decide +kernel
theorem dX7_forget_3 : decode cX7_forget 3 = .ok (.getfield 51, 3) := by decide +kernel
theorem dX7_forget_6 : decode cX7_forget 6 = .ok (.getfield 100, 3) := by decide +kernel
theorem dX7_forget_9 : decode cX7_forget 9 = .ok (.invokestatic 70, 3) := by decide +kernel
theorem dX7_forget_12 : decode cX7_forget 12 = .ok (.ifCond .ne 5, 3) := by decide +kernel
theorem dX7_forget_15 : decode cX7_forget 15 = .ok (.iconst (-1), 1) := by decide +kernel
theorem dX7_forget_16 : decode cX7_forget 16 = .ok (.ireturn, 1) := by decide +kernel
theorem dX7_forget_17 : decode cX7_forget 17 = .ok (.aload_n 0, 1) := by decide +kernel
theorem dX7_forget_18 : decode cX7_forget 18 = .ok (.getfield 51, 3) := by decide +kernel
theorem dX7_forget_21 : decode cX7_forget 21 = .ok (.getfield 100, 3) := by decide +kernel
theorem dX7_forget_24 : decode cX7_forget 24 = .ok (.istore_n 2, 1) := by decide +kernel
theorem dX7_forget_25 : decode cX7_forget 25 = .ok (.aload_n 0, 1) := by decide +kernel
theorem dX7_forget_26 : decode cX7_forget 26 = .ok (.getfield 51, 3) := by decide +kernel
theorem dX7_forget_29 : decode cX7_forget 29 = .ok (.iload_n 1, 1) := by decide +kernel
theorem dX7_forget_30 : decode cX7_forget 30 = .ok (.putfield 100, 3) := by decide +kernel
theorem dX7_forget_33 : decode cX7_forget 33 = .ok (.iload_n 2, 1) := by decide +kernel
theorem dX7_forget_34 : decode cX7_forget 34 = .ok (.ireturn, 1) := by decide +kernel
theorem dX7_fits_0 : decode cX7_fits 0 = .ok (.iload_n 1, 1) := by decide +kernel
theorem dX7_fits_1 : decode cX7_fits 1 = .ok (.iconst 0, 1) := by decide +kernel
theorem dX7_fits_2 : decode cX7_fits 2 = .ok (.iconst 2, 1) := by decide +kernel
theorem dX7_fits_3 : decode cX7_fits 3 = .ok (.invokestatic 70, 3) := by decide +kernel
theorem dX7_fits_6 : decode cX7_fits 6 = .ok (.ifCond .ne 5, 3) := by decide +kernel
theorem dX7_fits_9 : decode cX7_fits 9 = .ok (.iconst (-1), 1) := by decide +kernel
theorem dX7_fits_10 : decode cX7_fits 10 = .ok (.ireturn, 1) := by decide +kernel
theorem dX7_fits_11 : decode cX7_fits 11 = .ok (.aload_n 0, 1) := by decide +kernel
theorem dX7_fits_12 : decode cX7_fits 12 = .ok (.getfield 19, 3) := by decide +kernel
theorem dX7_fits_15 : decode cX7_fits 15 = .ok (.getfield 109, 3) := by decide +kernel
theorem dX7_fits_18 : decode cX7_fits 18 = .ok (.istore_n 2, 1) := by decide +kernel
theorem dX7_fits_19 : decode cX7_fits 19 = .ok (.iload_n 2, 1) := by decide +kernel
theorem dX7_fits_20 : decode cX7_fits 20 = .ok (.invokestatic 218, 3) := by decide +kernel
theorem dX7_fits_23 : decode cX7_fits 23 = .ok (.istore_n 3, 1) := by decide +kernel
theorem dX7_fits_24 : decode cX7_fits 24 = .ok (.iconst 0, 1) := by decide +kernel
theorem dX7_fits_25 : decode cX7_fits 25 = .ok (.istore 4, 2) := by decide +kernel
theorem dX7_fits_27 : decode cX7_fits 27 = .ok (.bipush (-4), 2) := by decide +kernel
theorem dX7_fits_29 : decode cX7_fits 29 = .ok (.istore 5, 2) := by decide +kernel
theorem dX7_fits_31 : decode cX7_fits 31 = .ok (.iconst 0, 1) := by decide +kernel
theorem dX7_fits_32 : decode cX7_fits 32 = .ok (.istore 6, 2) := by decide +kernel
theorem dX7_fits_34 : decode cX7_fits 34 = .ok (.aload_n 0, 1) := by decide +kernel
theorem dX7_fits_35 : decode cX7_fits 35 = .ok (.invokevirtual 221, 3) := by decide +kernel
theorem dX7_fits_38 : decode cX7_fits 38 = .ok (.iconst 0, 1) := by decide +kernel
theorem dX7_fits_39 : decode cX7_fits 39 = .ok (.istore 7, 2) := by decide +kernel
theorem dX7_fits_41 : decode cX7_fits 41 = .ok (.iload 7, 2) := by decide +kernel
theorem dX7_fits_43 : decode cX7_fits 43 = .ok (.iload_n 3, 1) := by decide +kernel
theorem dX7_fits_44 : decode cX7_fits 44 = .ok (.if_icmp .ge 101, 3) := by decide +kernel
theorem dX7_fits_47 : decode cX7_fits 47 = .ok (.aload_n 0, 1) := by decide +kernel
theorem dX7_fits_48 : decode cX7_fits 48 = .ok (.getfield 37, 3) := by decide +kernel
theorem dX7_fits_51 : decode cX7_fits 51 = .ok (.invokevirtual 212, 3) := by decide +kernel
theorem dX7_fits_54 : decode cX7_fits 54 = .ok (.aload_n 0, 1) := by decide +kernel
theorem dX7_fits_55 : decode cX7_fits 55 = .ok (.getfield 37, 3) := by decide +kernel
theorem dX7_fits_58 : decode cX7_fits 58 = .ok (.invokevirtual 224, 3) := by decide +kernel
theorem dX7_fits_61 : decode cX7_fits 61 = .ok (.aload_n 0, 1) := by decide +kernel
theorem dX7_fits_62 : decode cX7_fits 62 = .ok (.getfield 51, 3) := by decide +kernel
theorem dX7_fits_65 : decode cX7_fits 65 = .ok (.aload_n 0, 1) := by decide +kernel
theorem dX7_fits_66 : decode cX7_fits 66 = .ok (.getfield 37, 3) := by decide +kernel
theorem dX7_fits_69 : decode cX7_fits 69 = .ok (.getfield 165, 3) := by decide +kernel
theorem dX7_fits_72 : decode cX7_fits 72 = .ok (.invokevirtual 278, 3) := by decide +kernel
theorem dX7_fits_75 : decode cX7_fits 75 = .ok (.ifCond .eq 53, 3) := by decide +kernel
theorem dX7_fits_78 : decode cX7_fits 78 = .ok (.iload 4, 2) := by decide +kernel
theorem dX7_fits_80 : decode cX7_fits 80 = .ok (.ifCond .ne 17, 3) := by decide +kernel
theorem dX7_fits_83 : decode cX7_fits 83 = .ok (.aload_n 0, 1) := by decide +kernel
theorem dX7_fits_84 : decode cX7_fits 84 = .ok (.getfield 37, 3) := by decide +kernel
theorem dX7_fits_87 : decode cX7_fits 87 = .ok (.getfield 227, 3) := by decide +kernel
theorem dX7_fits_90 : decode cX7_fits 90 = .ok (.iload_n 2, 1) := by decide +kernel
theorem dX7_fits_91 : decode cX7_fits 91 = .ok (.invokestatic 122, 3) := by decide +kernel
theorem dX7_fits_94 : decode cX7_fits 94 = .ok (.goto 5, 3) := by decide +kernel
theorem dX7_fits_97 : decode cX7_fits 97 = .ok (.iload 5, 2) := by decide +kernel
theorem dX7_fits_99 : decode cX7_fits 99 = .ok (.istore 5, 2) := by decide +kernel
theorem dX7_fits_101 : decode cX7_fits 101 = .ok (.iload 6, 2) := by decide +kernel
theorem dX7_fits_103 : decode cX7_fits 103 = .ok (.iload_n 2, 1) := by decide +kernel
theorem dX7_fits_104 : decode cX7_fits 104 = .ok (.ifCond .ne 7, 3) := by decide +kernel
theorem dX7_fits_107 : decode cX7_fits 107 = .ok (.iconst 0, 1) := by decide +kernel
theorem dX7_fits_108 : decode cX7_fits 108 = .ok (.goto 14, 3) := by decide +kernel
theorem dX7_fits_111 : decode cX7_fits 111 = .ok (.iconst 1, 1) := by decide +kernel
theorem dX7_fits_112 : decode cX7_fits 112 = .ok (.aload_n 0, 1) := by decide +kernel
theorem dX7_fits_113 : decode cX7_fits 113 = .ok (.getfield 37, 3) := by decide +kernel
theorem dX7_fits_116 : decode cX7_fits 116 = .ok (.getfield 227, 3) := by decide +kernel
theorem dX7_fits_119 : decode cX7_fits 119 = .ok (.iconst 0, 1) := by decide +kernel
theorem dX7_fits_120 : decode cX7_fits 120 = .ok (.iaload, 1) := by decide +kernel
theorem dX7_fits_121 : decode cX7_fits 121 = .ok (.ishl, 1) := by decide +kernel
theorem dX7_fits_122 : decode cX7_fits 122 = .ok (.ior, 1) := by decide +kernel
theorem dX7_fits_123 : decode cX7_fits 123 = .ok (.istore 6, 2) := by decide +kernel
theorem dX7_fits_125 : decode cX7_fits 125 = .ok (.iinc 4 1, 3) := by decide +kernel
theorem dX7_fits_128 : decode cX7_fits 128 = .ok (.aload_n 0, 1) := by decide +kernel
theorem dX7_fits_129 : decode cX7_fits 129 = .ok (.getfield 37, 3) := by decide +kernel
theorem dX7_fits_132 : decode cX7_fits 132 = .ok (.getfield 227, 3) := by decide +kernel
theorem dX7_fits_135 : decode cX7_fits 135 = .ok (.iload_n 2, 1) := by decide +kernel
theorem dX7_fits_136 : decode cX7_fits 136 = .ok (.invokestatic 230, 3) := by decide +kernel
theorem dX7_fits_139 : decode cX7_fits 139 = .ok (.iinc 7 1, 3) := by decide +kernel
theorem dX7_fits_142 : decode cX7_fits 142 = .ok (.goto (-101), 3) := by decide +kernel
theorem dX7_fits_145 : decode cX7_fits 145 = .ok (.iload_n 1, 1) := by decide +kernel
theorem dX7_fits_146 : decode cX7_fits 146 = .ok (.lookupswitch 32 #[(0, 26), (1, 29)], 26) := by decide +kernel
theorem dX7_fits_172 : decode cX7_fits 172 = .ok (.iload 4, 2) := by decide +kernel
theorem dX7_fits_174 : decode cX7_fits 174 = .ok (.ireturn, 1) := by decide +kernel
theorem dX7_fits_175 : decode cX7_fits 175 = .ok (.iload 5, 2) := by decide +kernel
theorem dX7_fits_177 : decode cX7_fits 177 = .ok (.ireturn, 1) := by decide +kernel
theorem dX7_fits_178 : decode cX7_fits 178 = .ok (.iload 6, 2) := by decide +kernel
theorem dX7_fits_180 : decode cX7_fits 180 = .ok (.ireturn, 1) := by decide +kernel
theorem dX7_drift_0 : decode cX7_drift 0 = .ok (.iload_n 2, 1) := by decide +kernel
theorem dX7_drift_1 : decode cX7_drift 1 = .ok (.iconst 1, 1) := by decide +kernel
theorem dX7_drift_2 : decode cX7_drift 2 = .ok (.bipush 60, 2) := by decide +kernel
theorem dX7_drift_4 : decode cX7_drift 4 = .ok (.invokestatic 70, 3) := by decide +kernel
theorem dX7_drift_7 : decode cX7_drift 7 = .ok (.ifCond .eq 12, 3) := by decide +kernel
theorem dX7_drift_10 : decode cX7_drift 10 = .ok (.iload_n 3, 1) := by decide +kernel
theorem dX7_drift_11 : decode cX7_drift 11 = .ok (.iconst 0, 1) := by decide +kernel
theorem dX7_drift_12 : decode cX7_drift 12 = .ok (.iconst 1, 1) := by decide +kernel
theorem dX7_drift_13 : decode cX7_drift 13 = .ok (.invokestatic 70, 3) := by decide +kernel
theorem dX7_drift_16 : decode cX7_drift 16 = .ok (.ifCond .ne 5, 3) := by decide +kernel
theorem dX7_drift_19 : decode cX7_drift 19 = .ok (.iconst (-1), 1) := by decide +kernel
theorem dX7_drift_20 : decode cX7_drift 20 = .ok (.ireturn, 1) := by decide +kernel
theorem dX7_drift_21 : decode cX7_drift 21 = .ok (.aload_n 0, 1) := by decide +kernel
theorem dX7_drift_22 : decode cX7_drift 22 = .ok (.getfield 19, 3) := by decide +kernel
theorem dX7_drift_25 : decode cX7_drift 25 = .ok (.getfield 109, 3) := by decide +kernel
theorem dX7_drift_28 : decode cX7_drift 28 = .ok (.ifCond .gt 6, 3) := by decide +kernel
theorem dX7_drift_31 : decode cX7_drift 31 = .ok (.bipush (-2), 2) := by decide +kernel
theorem dX7_drift_33 : decode cX7_drift 33 = .ok (.ireturn, 1) := by decide +kernel
theorem dX7_drift_34 : decode cX7_drift 34 = .ok (.iconst 0, 1) := by decide +kernel
theorem dX7_drift_35 : decode cX7_drift 35 = .ok (.istore 4, 2) := by decide +kernel
theorem dX7_drift_37 : decode cX7_drift 37 = .ok (.iconst 0, 1) := by decide +kernel
theorem dX7_drift_38 : decode cX7_drift 38 = .ok (.istore 5, 2) := by decide +kernel
theorem dX7_drift_40 : decode cX7_drift 40 = .ok (.iload_n 1, 1) := by decide +kernel
theorem dX7_drift_41 : decode cX7_drift 41 = .ok (.istore 6, 2) := by decide +kernel
theorem dX7_drift_43 : decode cX7_drift 43 = .ok (.aload_n 0, 1) := by decide +kernel
theorem dX7_drift_44 : decode cX7_drift 44 = .ok (.getfield 37, 3) := by decide +kernel
theorem dX7_drift_47 : decode cX7_drift 47 = .ok (.aload_n 0, 1) := by decide +kernel
theorem dX7_drift_48 : decode cX7_drift 48 = .ok (.invokevirtual 204, 3) := by decide +kernel
theorem dX7_drift_51 : decode cX7_drift 51 = .ok (.aload_n 0, 1) := by decide +kernel
theorem dX7_drift_52 : decode cX7_drift 52 = .ok (.getfield 19, 3) := by decide +kernel
theorem dX7_drift_55 : decode cX7_drift 55 = .ok (.getfield 115, 3) := by decide +kernel
theorem dX7_drift_58 : decode cX7_drift 58 = .ok (.invokevirtual 208, 3) := by decide +kernel
theorem dX7_drift_61 : decode cX7_drift 61 = .ok (.aload_n 0, 1) := by decide +kernel
theorem dX7_drift_62 : decode cX7_drift 62 = .ok (.getfield 37, 3) := by decide +kernel
theorem dX7_drift_65 : decode cX7_drift 65 = .ok (.invokevirtual 244, 3) := by decide +kernel
theorem dX7_drift_68 : decode cX7_drift 68 = .ok (.iconst 0, 1) := by decide +kernel
theorem dX7_drift_69 : decode cX7_drift 69 = .ok (.istore 7, 2) := by decide +kernel
theorem dX7_drift_71 : decode cX7_drift 71 = .ok (.iload 7, 2) := by decide +kernel
theorem dX7_drift_73 : decode cX7_drift 73 = .ok (.iload_n 2, 1) := by decide +kernel
theorem dX7_drift_74 : decode cX7_drift 74 = .ok (.if_icmp .ge 112, 3) := by decide +kernel
theorem dX7_drift_77 : decode cX7_drift 77 = .ok (.iload 6, 2) := by decide +kernel
theorem dX7_drift_79 : decode cX7_drift 79 = .ok (.ldc_w 282, 3) := by decide +kernel
theorem dX7_drift_82 : decode cX7_drift 82 = .ok (.imul, 1) := by decide +kernel
theorem dX7_drift_83 : decode cX7_drift 83 = .ok (.sipush 12345, 3) := by decide +kernel
theorem dX7_drift_86 : decode cX7_drift 86 = .ok (.iadd, 1) := by decide +kernel
theorem dX7_drift_87 : decode cX7_drift 87 = .ok (.istore 6, 2) := by decide +kernel
theorem dX7_drift_89 : decode cX7_drift 89 = .ok (.aload_n 0, 1) := by decide +kernel
theorem dX7_drift_90 : decode cX7_drift 90 = .ok (.getfield 37, 3) := by decide +kernel
theorem dX7_drift_93 : decode cX7_drift 93 = .ok (.getfield 227, 3) := by decide +kernel
theorem dX7_drift_96 : decode cX7_drift 96 = .ok (.aload_n 0, 1) := by decide +kernel
theorem dX7_drift_97 : decode cX7_drift 97 = .ok (.getfield 19, 3) := by decide +kernel
theorem dX7_drift_100 : decode cX7_drift 100 = .ok (.getfield 109, 3) := by decide +kernel
theorem dX7_drift_103 : decode cX7_drift 103 = .ok (.iload 6, 2) := by decide +kernel
theorem dX7_drift_105 : decode cX7_drift 105 = .ok (.bipush 16, 2) := by decide +kernel
theorem dX7_drift_107 : decode cX7_drift 107 = .ok (.iushr, 1) := by decide +kernel
theorem dX7_drift_108 : decode cX7_drift 108 = .ok (.sipush 32767, 3) := by decide +kernel
theorem dX7_drift_111 : decode cX7_drift 111 = .ok (.iand, 1) := by decide +kernel
theorem dX7_drift_112 : decode cX7_drift 112 = .ok (.aload_n 0, 1) := by decide +kernel
theorem dX7_drift_113 : decode cX7_drift 113 = .ok (.getfield 19, 3) := by decide +kernel
theorem dX7_drift_116 : decode cX7_drift 116 = .ok (.getfield 109, 3) := by decide +kernel
theorem dX7_drift_119 : decode cX7_drift 119 = .ok (.irem, 1) := by decide +kernel
theorem dX7_drift_120 : decode cX7_drift 120 = .ok (.invokestatic 283, 3) := by decide +kernel
theorem dX7_drift_123 : decode cX7_drift 123 = .ok (.aload_n 0, 1) := by decide +kernel
theorem dX7_drift_124 : decode cX7_drift 124 = .ok (.getfield 37, 3) := by decide +kernel
theorem dX7_drift_127 : decode cX7_drift 127 = .ok (.invokevirtual 212, 3) := by decide +kernel
theorem dX7_drift_130 : decode cX7_drift 130 = .ok (.aload_n 0, 1) := by decide +kernel
theorem dX7_drift_131 : decode cX7_drift 131 = .ok (.getfield 37, 3) := by decide +kernel
theorem dX7_drift_134 : decode cX7_drift 134 = .ok (.invokevirtual 224, 3) := by decide +kernel
theorem dX7_drift_137 : decode cX7_drift 137 = .ok (.iload 4, 2) := by decide +kernel
theorem dX7_drift_139 : decode cX7_drift 139 = .ok (.aload_n 0, 1) := by decide +kernel
theorem dX7_drift_140 : decode cX7_drift 140 = .ok (.getfield 37, 3) := by decide +kernel
theorem dX7_drift_143 : decode cX7_drift 143 = .ok (.getfield 177, 3) := by decide +kernel
theorem dX7_drift_146 : decode cX7_drift 146 = .ok (.invokestatic 287, 3) := by decide +kernel
theorem dX7_drift_149 : decode cX7_drift 149 = .ok (.istore 4, 2) := by decide +kernel
theorem dX7_drift_151 : decode cX7_drift 151 = .ok (.iload 7, 2) := by decide +kernel
theorem dX7_drift_153 : decode cX7_drift 153 = .ok (.ifCond .ne 13, 3) := by decide +kernel
theorem dX7_drift_156 : decode cX7_drift 156 = .ok (.aload_n 0, 1) := by decide +kernel
theorem dX7_drift_157 : decode cX7_drift 157 = .ok (.getfield 37, 3) := by decide +kernel
theorem dX7_drift_160 : decode cX7_drift 160 = .ok (.getfield 168, 3) := by decide +kernel
theorem dX7_drift_163 : decode cX7_drift 163 = .ok (.goto 15, 3) := by decide +kernel
theorem dX7_drift_166 : decode cX7_drift 166 = .ok (.iload 5, 2) := by decide +kernel
theorem dX7_drift_168 : decode cX7_drift 168 = .ok (.aload_n 0, 1) := by decide +kernel
theorem dX7_drift_169 : decode cX7_drift 169 = .ok (.getfield 37, 3) := by decide +kernel
theorem dX7_drift_172 : decode cX7_drift 172 = .ok (.getfield 168, 3) := by decide +kernel
theorem dX7_drift_175 : decode cX7_drift 175 = .ok (.invokestatic 292, 3) := by decide +kernel
theorem dX7_drift_178 : decode cX7_drift 178 = .ok (.istore 5, 2) := by decide +kernel
theorem dX7_drift_180 : decode cX7_drift 180 = .ok (.iinc 7 1, 3) := by decide +kernel
theorem dX7_drift_183 : decode cX7_drift 183 = .ok (.goto (-112), 3) := by decide +kernel
theorem dX7_drift_186 : decode cX7_drift 186 = .ok (.iload_n 3, 1) := by decide +kernel
theorem dX7_drift_187 : decode cX7_drift 187 = .ok (.ifCond .ne 8, 3) := by decide +kernel
theorem dX7_drift_190 : decode cX7_drift 190 = .ok (.iload 4, 2) := by decide +kernel
theorem dX7_drift_192 : decode cX7_drift 192 = .ok (.goto 5, 3) := by decide +kernel
theorem dX7_drift_195 : decode cX7_drift 195 = .ok (.iload 5, 2) := by decide +kernel
theorem dX7_drift_197 : decode cX7_drift 197 = .ok (.ireturn, 1) := by decide +kernel
theorem dX7_keep_0 : decode cX7_keep 0 = .ok (.iload_n 1, 1) := by decide +kernel
theorem dX7_keep_1 : decode cX7_keep 1 = .ok (.iconst 0, 1) := by decide +kernel
theorem dX7_keep_2 : decode cX7_keep 2 = .ok (.iconst 1, 1) := by decide +kernel
theorem dX7_keep_3 : decode cX7_keep 3 = .ok (.invokestatic 70, 3) := by decide +kernel
theorem dX7_keep_6 : decode cX7_keep 6 = .ok (.ifCond .ne 5, 3) := by decide +kernel
theorem dX7_keep_9 : decode cX7_keep 9 = .ok (.iconst (-1), 1) := by decide +kernel
theorem dX7_keep_10 : decode cX7_keep 10 = .ok (.ireturn, 1) := by decide +kernel
theorem dX7_keep_11 : decode cX7_keep 11 = .ok (.aload_n 0, 1) := by decide +kernel
theorem dX7_keep_12 : decode cX7_keep 12 = .ok (.getfield 59, 3) := by decide +kernel
theorem dX7_keep_15 : decode cX7_keep 15 = .ok (.iload_n 1, 1) := by decide +kernel
theorem dX7_keep_16 : decode cX7_keep 16 = .ok (.baload, 1) := by decide +kernel
theorem dX7_keep_17 : decode cX7_keep 17 = .ok (.ifCond .eq 7, 3) := by decide +kernel
theorem dX7_keep_20 : decode cX7_keep 20 = .ok (.iconst 1, 1) := by decide +kernel
theorem dX7_keep_21 : decode cX7_keep 21 = .ok (.goto 4, 3) := by decide +kernel
theorem dX7_keep_24 : decode cX7_keep 24 = .ok (.iconst 0, 1) := by decide +kernel
theorem dX7_keep_25 : decode cX7_keep 25 = .ok (.istore_n 2, 1) := by decide +kernel
theorem dX7_keep_26 : decode cX7_keep 26 = .ok (.aload_n 0, 1) := by decide +kernel
theorem dX7_keep_27 : decode cX7_keep 27 = .ok (.getfield 55, 3) := by decide +kernel
theorem dX7_keep_30 : decode cX7_keep 30 = .ok (.iload_n 1, 1) := by decide +kernel
theorem dX7_keep_31 : decode cX7_keep 31 = .ok (.aaload, 1) := by decide +kernel
theorem dX7_keep_32 : decode cX7_keep 32 = .ok (.aload_n 0, 1) := by decide +kernel
theorem dX7_keep_33 : decode cX7_keep 33 = .ok (.getfield 19, 3) := by decide +kernel
theorem dX7_keep_36 : decode cX7_keep 36 = .ok (.invokevirtual 97, 3) := by decide +kernel
theorem dX7_keep_39 : decode cX7_keep 39 = .ok (.aload_n 0, 1) := by decide +kernel
theorem dX7_keep_40 : decode cX7_keep 40 = .ok (.getfield 59, 3) := by decide +kernel
theorem dX7_keep_43 : decode cX7_keep 43 = .ok (.iload_n 1, 1) := by decide +kernel
theorem dX7_keep_44 : decode cX7_keep 44 = .ok (.iconst 1, 1) := by decide +kernel
theorem dX7_keep_45 : decode cX7_keep 45 = .ok (.bastore, 1) := by decide +kernel
theorem dX7_keep_46 : decode cX7_keep 46 = .ok (.iload_n 2, 1) := by decide +kernel
theorem dX7_keep_47 : decode cX7_keep 47 = .ok (.ireturn, 1) := by decide +kernel
theorem dX7_undo_0 : decode cX7_undo 0 = .ok (.iload_n 1, 1) := by decide +kernel
theorem dX7_undo_1 : decode cX7_undo 1 = .ok (.iconst 0, 1) := by decide +kernel
theorem dX7_undo_2 : decode cX7_undo 2 = .ok (.iconst 1, 1) := by decide +kernel
theorem dX7_undo_3 : decode cX7_undo 3 = .ok (.invokestatic 70, 3) := by decide +kernel
theorem dX7_undo_6 : decode cX7_undo 6 = .ok (.ifCond .ne 5, 3) := by decide +kernel
theorem dX7_undo_9 : decode cX7_undo 9 = .ok (.iconst (-1), 1) := by decide +kernel
theorem dX7_undo_10 : decode cX7_undo 10 = .ok (.ireturn, 1) := by decide +kernel
theorem dX7_undo_11 : decode cX7_undo 11 = .ok (.aload_n 0, 1) := by decide +kernel
theorem dX7_undo_12 : decode cX7_undo 12 = .ok (.getfield 59, 3) := by decide +kernel
theorem dX7_undo_15 : decode cX7_undo 15 = .ok (.iload_n 1, 1) := by decide +kernel
theorem dX7_undo_16 : decode cX7_undo 16 = .ok (.baload, 1) := by decide +kernel
theorem dX7_undo_17 : decode cX7_undo 17 = .ok (.ifCond .ne 6, 3) := by decide +kernel
theorem dX7_undo_20 : decode cX7_undo 20 = .ok (.bipush (-2), 2) := by decide +kernel
theorem dX7_undo_22 : decode cX7_undo 22 = .ok (.ireturn, 1) := by decide +kernel
theorem dX7_undo_23 : decode cX7_undo 23 = .ok (.aload_n 0, 1) := by decide +kernel
theorem dX7_undo_24 : decode cX7_undo 24 = .ok (.getfield 19, 3) := by decide +kernel
theorem dX7_undo_27 : decode cX7_undo 27 = .ok (.aload_n 0, 1) := by decide +kernel
theorem dX7_undo_28 : decode cX7_undo 28 = .ok (.getfield 55, 3) := by decide +kernel
theorem dX7_undo_31 : decode cX7_undo 31 = .ok (.iload_n 1, 1) := by decide +kernel
theorem dX7_undo_32 : decode cX7_undo 32 = .ok (.aaload, 1) := by decide +kernel
theorem dX7_undo_33 : decode cX7_undo 33 = .ok (.invokevirtual 97, 3) := by decide +kernel
theorem dX7_undo_36 : decode cX7_undo 36 = .ok (.aload_n 0, 1) := by decide +kernel
theorem dX7_undo_37 : decode cX7_undo 37 = .ok (.getfield 19, 3) := by decide +kernel
theorem dX7_undo_40 : decode cX7_undo 40 = .ok (.getfield 115, 3) := by decide +kernel
theorem dX7_undo_43 : decode cX7_undo 43 = .ok (.ireturn, 1) := by decide +kernel
theorem dX7_sheet_0 : decode cX7_sheet 0 = .ok (.iload_n 1, 1) := by decide +kernel
theorem dX7_sheet_1 : decode cX7_sheet 1 = .ok (.iconst 0, 1) := by decide +kernel
theorem dX7_sheet_2 : decode cX7_sheet 2 = .ok (.iconst 3, 1) := by decide +kernel
theorem dX7_sheet_3 : decode cX7_sheet 3 = .ok (.invokestatic 70, 3) := by decide +kernel
theorem dX7_sheet_6 : decode cX7_sheet 6 = .ok (.ifCond .eq 18, 3) := by decide +kernel
theorem dX7_sheet_9 : decode cX7_sheet 9 = .ok (.iload_n 2, 1) := by decide +kernel
theorem dX7_sheet_10 : decode cX7_sheet 10 = .ok (.iconst 0, 1) := by decide +kernel
theorem dX7_sheet_11 : decode cX7_sheet 11 = .ok (.iconst 2, 1) := by decide +kernel
theorem dX7_sheet_12 : decode cX7_sheet 12 = .ok (.invokestatic 70, 3) := by decide +kernel
theorem dX7_sheet_15 : decode cX7_sheet 15 = .ok (.ifCond .eq 9, 3) := by decide +kernel
theorem dX7_sheet_18 : decode cX7_sheet 18 = .ok (.iload_n 3, 1) := by decide +kernel
theorem dX7_sheet_19 : decode cX7_sheet 19 = .ok (.bipush 40, 2) := by decide +kernel
theorem dX7_sheet_21 : decode cX7_sheet 21 = .ok (.if_icmp .le 5, 3) := by decide +kernel
theorem dX7_sheet_24 : decode cX7_sheet 24 = .ok (.iconst (-1), 1) := by decide +kernel
theorem dX7_sheet_25 : decode cX7_sheet 25 = .ok (.ireturn, 1) := by decide +kernel
theorem dX7_sheet_26 : decode cX7_sheet 26 = .ok (.iload_n 3, 1) := by decide +kernel
theorem dX7_sheet_27 : decode cX7_sheet 27 = .ok (.ifCond .ge 6, 3) := by decide +kernel
theorem dX7_sheet_30 : decode cX7_sheet 30 = .ok (.bipush (-14), 2) := by decide +kernel
theorem dX7_sheet_32 : decode cX7_sheet 32 = .ok (.ireturn, 1) := by decide +kernel
theorem dX7_sheet_33 : decode cX7_sheet 33 = .ok (.aload_n 0, 1) := by decide +kernel
theorem dX7_sheet_34 : decode cX7_sheet 34 = .ok (.getfield 66, 3) := by decide +kernel
theorem dX7_sheet_37 : decode cX7_sheet 37 = .ok (.iload_n 1, 1) := by decide +kernel
theorem dX7_sheet_38 : decode cX7_sheet 38 = .ok (.iload_n 2, 1) := by decide +kernel
theorem dX7_sheet_39 : decode cX7_sheet 39 = .ok (.iload_n 3, 1) := by decide +kernel
theorem dX7_sheet_40 : decode cX7_sheet 40 = .ok (.invokevirtual 295, 3) := by decide +kernel
theorem dX7_sheet_43 : decode cX7_sheet 43 = .ok (.iconst 1, 1) := by decide +kernel
theorem dX7_sheet_44 : decode cX7_sheet 44 = .ok (.ireturn, 1) := by decide +kernel
theorem dX7_lay_0 : decode cX7_lay 0 = .ok (.iload_n 1, 1) := by decide +kernel
theorem dX7_lay_1 : decode cX7_lay 1 = .ok (.iconst 0, 1) := by decide +kernel
theorem dX7_lay_2 : decode cX7_lay 2 = .ok (.iconst 3, 1) := by decide +kernel
theorem dX7_lay_3 : decode cX7_lay 3 = .ok (.invokestatic 70, 3) := by decide +kernel
theorem dX7_lay_6 : decode cX7_lay 6 = .ok (.ifCond .ne 5, 3) := by decide +kernel
theorem dX7_lay_9 : decode cX7_lay 9 = .ok (.iconst (-1), 1) := by decide +kernel
theorem dX7_lay_10 : decode cX7_lay 10 = .ok (.ireturn, 1) := by decide +kernel
theorem dX7_lay_11 : decode cX7_lay 11 = .ok (.aload_n 0, 1) := by decide +kernel
theorem dX7_lay_12 : decode cX7_lay 12 = .ok (.getfield 66, 3) := by decide +kernel
theorem dX7_lay_15 : decode cX7_lay 15 = .ok (.iload_n 1, 1) := by decide +kernel
theorem dX7_lay_16 : decode cX7_lay 16 = .ok (.aload_n 0, 1) := by decide +kernel
theorem dX7_lay_17 : decode cX7_lay 17 = .ok (.getfield 66, 3) := by decide +kernel
theorem dX7_lay_20 : decode cX7_lay 20 = .ok (.getfield 299, 3) := by decide +kernel
theorem dX7_lay_23 : decode cX7_lay 23 = .ok (.iload_n 1, 1) := by decide +kernel
theorem dX7_lay_24 : decode cX7_lay 24 = .ok (.iaload, 1) := by decide +kernel
theorem dX7_lay_25 : decode cX7_lay 25 = .ok (.iload_n 2, 1) := by decide +kernel
theorem dX7_lay_26 : decode cX7_lay 26 = .ok (.i2l, 1) := by decide +kernel
theorem dX7_lay_27 : decode cX7_lay 27 = .ok (.invokevirtual 302, 3) := by decide +kernel
theorem dX7_lay_30 : decode cX7_lay 30 = .ok (.istore 4, 2) := by decide +kernel
theorem dX7_lay_32 : decode cX7_lay 32 = .ok (.iload 4, 2) := by decide +kernel
theorem dX7_lay_34 : decode cX7_lay 34 = .ok (.ifCond .eq 9, 3) := by decide +kernel
theorem dX7_lay_37 : decode cX7_lay 37 = .ok (.bipush (-10), 2) := by decide +kernel
theorem dX7_lay_39 : decode cX7_lay 39 = .ok (.iload 4, 2) := by decide +kernel
theorem dX7_lay_41 : decode cX7_lay 41 = .ok (.isub, 1) := by decide +kernel
theorem dX7_lay_42 : decode cX7_lay 42 = .ok (.ireturn, 1) := by decide +kernel
theorem dX7_lay_43 : decode cX7_lay 43 = .ok (.aload_n 0, 1) := by decide +kernel
theorem dX7_lay_44 : decode cX7_lay 44 = .ok (.getfield 66, 3) := by decide +kernel
theorem dX7_lay_47 : decode cX7_lay 47 = .ok (.iload_n 1, 1) := by decide +kernel
theorem dX7_lay_48 : decode cX7_lay 48 = .ok (.iload_n 2, 1) := by decide +kernel
theorem dX7_lay_49 : decode cX7_lay 49 = .ok (.iload_n 3, 1) := by decide +kernel
theorem dX7_lay_50 : decode cX7_lay 50 = .ok (.invokevirtual 306, 3) := by decide +kernel
theorem dX7_lay_53 : decode cX7_lay 53 = .ok (.iconst 1, 1) := by decide +kernel
theorem dX7_lay_54 : decode cX7_lay 54 = .ok (.ireturn, 1) := by decide +kernel
theorem dX7_read_0 : decode cX7_read 0 = .ok (.iload_n 1, 1) := by decide +kernel
theorem dX7_read_1 : decode cX7_read 1 = .ok (.iconst 0, 1) := by decide +kernel
theorem dX7_read_2 : decode cX7_read 2 = .ok (.iconst 3, 1) := by decide +kernel
theorem dX7_read_3 : decode cX7_read 3 = .ok (.invokestatic 70, 3) := by decide +kernel
theorem dX7_read_6 : decode cX7_read 6 = .ok (.ifCond .eq 23, 3) := by decide +kernel
theorem dX7_read_9 : decode cX7_read 9 = .ok (.iload_n 2, 1) := by decide +kernel
theorem dX7_read_10 : decode cX7_read 10 = .ok (.iconst 0, 1) := by decide +kernel
theorem dX7_read_11 : decode cX7_read 11 = .ok (.iconst 2, 1) := by decide +kernel
theorem dX7_read_12 : decode cX7_read 12 = .ok (.invokestatic 70, 3) := by decide +kernel
theorem dX7_read_15 : decode cX7_read 15 = .ok (.ifCond .eq 14, 3) := by decide +kernel
theorem dX7_read_18 : decode cX7_read 18 = .ok (.iload 4, 2) := by decide +kernel
theorem dX7_read_20 : decode cX7_read 20 = .ok (.iconst 0, 1) := by decide +kernel
theorem dX7_read_21 : decode cX7_read 21 = .ok (.bipush 20, 2) := by decide +kernel
theorem dX7_read_23 : decode cX7_read 23 = .ok (.invokestatic 70, 3) := by decide +kernel
theorem dX7_read_26 : decode cX7_read 26 = .ok (.ifCond .ne 5, 3) := by decide +kernel
theorem dX7_read_29 : decode cX7_read 29 = .ok (.iconst (-1), 1) := by decide +kernel
theorem dX7_read_30 : decode cX7_read 30 = .ok (.ireturn, 1) := by decide +kernel
theorem dX7_read_31 : decode cX7_read 31 = .ok (.iconst 0, 1) := by decide +kernel
theorem dX7_read_32 : decode cX7_read 32 = .ok (.istore 5, 2) := by decide +kernel
theorem dX7_read_34 : decode cX7_read 34 = .ok (.iconst 0, 1) := by decide +kernel
theorem dX7_read_35 : decode cX7_read 35 = .ok (.istore 6, 2) := by decide +kernel
theorem dX7_read_37 : decode cX7_read 37 = .ok (.iconst 0, 1) := by decide +kernel
theorem dX7_read_38 : decode cX7_read 38 = .ok (.istore 7, 2) := by decide +kernel
theorem dX7_read_40 : decode cX7_read 40 = .ok (.iload 7, 2) := by decide +kernel
theorem dX7_read_42 : decode cX7_read 42 = .ok (.iload 4, 2) := by decide +kernel
theorem dX7_read_44 : decode cX7_read 44 = .ok (.if_icmp .ge 86, 3) := by decide +kernel
theorem dX7_read_47 : decode cX7_read 47 = .ok (.iload 5, 2) := by decide +kernel
theorem dX7_read_49 : decode cX7_read 49 = .ok (.ifCond .ne 81, 3) := by decide +kernel
theorem dX7_read_52 : decode cX7_read 52 = .ok (.aload_n 0, 1) := by decide +kernel
theorem dX7_read_53 : decode cX7_read 53 = .ok (.getfield 66, 3) := by decide +kernel
theorem dX7_read_56 : decode cX7_read 56 = .ok (.iload_n 1, 1) := by decide +kernel
theorem dX7_read_57 : decode cX7_read 57 = .ok (.iload_n 2, 1) := by decide +kernel
theorem dX7_read_58 : decode cX7_read 58 = .ok (.iload_n 3, 1) := by decide +kernel
theorem dX7_read_59 : decode cX7_read 59 = .ok (.iload 7, 2) := by decide +kernel
theorem dX7_read_61 : decode cX7_read 61 = .ok (.invokevirtual 309, 3) := by decide +kernel
theorem dX7_read_64 : decode cX7_read 64 = .ok (.istore 5, 2) := by decide +kernel
theorem dX7_read_66 : decode cX7_read 66 = .ok (.iload 5, 2) := by decide +kernel
theorem dX7_read_68 : decode cX7_read 68 = .ok (.ifCond .ne 56, 3) := by decide +kernel
theorem dX7_read_71 : decode cX7_read 71 = .ok (.aload_n 0, 1) := by decide +kernel
theorem dX7_read_72 : decode cX7_read 72 = .ok (.aload_n 0, 1) := by decide +kernel
theorem dX7_read_73 : decode cX7_read 73 = .ok (.getfield 66, 3) := by decide +kernel
theorem dX7_read_76 : decode cX7_read 76 = .ok (.iload_n 1, 1) := by decide +kernel
theorem dX7_read_77 : decode cX7_read 77 = .ok (.iload_n 3, 1) := by decide +kernel
theorem dX7_read_78 : decode cX7_read 78 = .ok (.iconst 2, 1) := by decide +kernel
theorem dX7_read_79 : decode cX7_read 79 = .ok (.iload 7, 2) := by decide +kernel
theorem dX7_read_81 : decode cX7_read 81 = .ok (.imul, 1) := by decide +kernel
theorem dX7_read_82 : decode cX7_read 82 = .ok (.iadd, 1) := by decide +kernel
theorem dX7_read_83 : decode cX7_read 83 = .ok (.invokevirtual 313, 3) := by decide +kernel
theorem dX7_read_86 : decode cX7_read 86 = .ok (.invokevirtual 137, 3) := by decide +kernel
theorem dX7_read_89 : decode cX7_read 89 = .ok (.ifCond .eq 26, 3) := by decide +kernel
theorem dX7_read_92 : decode cX7_read 92 = .ok (.aload_n 0, 1) := by decide +kernel
theorem dX7_read_93 : decode cX7_read 93 = .ok (.aload_n 0, 1) := by decide +kernel
theorem dX7_read_94 : decode cX7_read 94 = .ok (.getfield 66, 3) := by decide +kernel
theorem dX7_read_97 : decode cX7_read 97 = .ok (.iload_n 1, 1) := by decide +kernel
theorem dX7_read_98 : decode cX7_read 98 = .ok (.iload_n 3, 1) := by decide +kernel
theorem dX7_read_99 : decode cX7_read 99 = .ok (.iconst 2, 1) := by decide +kernel
theorem dX7_read_100 : decode cX7_read 100 = .ok (.iload 7, 2) := by decide +kernel
theorem dX7_read_102 : decode cX7_read 102 = .ok (.imul, 1) := by decide +kernel
theorem dX7_read_103 : decode cX7_read 103 = .ok (.iadd, 1) := by decide +kernel
theorem dX7_read_104 : decode cX7_read 104 = .ok (.iconst 1, 1) := by decide +kernel
theorem dX7_read_105 : decode cX7_read 105 = .ok (.iadd, 1) := by decide +kernel
theorem dX7_read_106 : decode cX7_read 106 = .ok (.invokevirtual 313, 3) := by decide +kernel
theorem dX7_read_109 : decode cX7_read 109 = .ok (.invokevirtual 137, 3) := by decide +kernel
theorem dX7_read_112 : decode cX7_read 112 = .ok (.ifCond .ne 9, 3) := by decide +kernel
theorem dX7_read_115 : decode cX7_read 115 = .ok (.bipush (-20), 2) := by decide +kernel
theorem dX7_read_117 : decode cX7_read 117 = .ok (.iload 7, 2) := by decide +kernel
theorem dX7_read_119 : decode cX7_read 119 = .ok (.isub, 1) := by decide +kernel
theorem dX7_read_120 : decode cX7_read 120 = .ok (.ireturn, 1) := by decide +kernel
theorem dX7_read_121 : decode cX7_read 121 = .ok (.iinc 6 1, 3) := by decide +kernel
theorem dX7_read_124 : decode cX7_read 124 = .ok (.iinc 7 1, 3) := by decide +kernel
theorem dX7_read_127 : decode cX7_read 127 = .ok (.goto (-87), 3) := by decide +kernel
theorem dX7_read_130 : decode cX7_read 130 = .ok (.iconst 0, 1) := by decide +kernel
theorem dX7_read_131 : decode cX7_read 131 = .ok (.istore 7, 2) := by decide +kernel
theorem dX7_read_133 : decode cX7_read 133 = .ok (.iload 7, 2) := by decide +kernel
theorem dX7_read_135 : decode cX7_read 135 = .ok (.iload 6, 2) := by decide +kernel
theorem dX7_read_137 : decode cX7_read 137 = .ok (.if_icmp .ge 51, 3) := by decide +kernel
theorem dX7_read_140 : decode cX7_read 140 = .ok (.aload_n 0, 1) := by decide +kernel
theorem dX7_read_141 : decode cX7_read 141 = .ok (.aload_n 0, 1) := by decide +kernel
theorem dX7_read_142 : decode cX7_read 142 = .ok (.getfield 19, 3) := by decide +kernel
theorem dX7_read_145 : decode cX7_read 145 = .ok (.getfield 126, 3) := by decide +kernel
theorem dX7_read_148 : decode cX7_read 148 = .ok (.aload_n 0, 1) := by decide +kernel
theorem dX7_read_149 : decode cX7_read 149 = .ok (.getfield 66, 3) := by decide +kernel
theorem dX7_read_152 : decode cX7_read 152 = .ok (.iload_n 1, 1) := by decide +kernel
theorem dX7_read_153 : decode cX7_read 153 = .ok (.iload_n 3, 1) := by decide +kernel
theorem dX7_read_154 : decode cX7_read 154 = .ok (.iconst 2, 1) := by decide +kernel
theorem dX7_read_155 : decode cX7_read 155 = .ok (.iload 7, 2) := by decide +kernel
theorem dX7_read_157 : decode cX7_read 157 = .ok (.imul, 1) := by decide +kernel
theorem dX7_read_158 : decode cX7_read 158 = .ok (.iadd, 1) := by decide +kernel
theorem dX7_read_159 : decode cX7_read 159 = .ok (.invokevirtual 313, 3) := by decide +kernel
theorem dX7_read_162 : decode cX7_read 162 = .ok (.aload_n 0, 1) := by decide +kernel
