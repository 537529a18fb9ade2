theorem dX0_init_0 : decode cX0_init 0 = .ok (.aload_n 0, 1) := by decide +kernel
theorem dX0_init_1 : decode cX0_init 1 = .ok (.invokespecial 3, 3) := by decide +kernel
theorem dX0_init_4 : decode cX0_init 4 = .ok (.aload_n 0, 1) := by decide +kernel
theorem dX0_init_5 : decode cX0_init 5 = .ok (.bipush 8, 2) := by decide +kernel
theorem dX0_init_7 : decode cX0_init 7 = .ok (.anewarray 9, 3) := by decide +kernel
theorem dX0_init_10 : decode cX0_init 10 = .ok (.putfield 11, 3) := by decide +kernel
theorem dX0_init_13 : decode cX0_init 13 = .ok (.iconst 0, 1) := by decide +kernel
theorem dX0_init_14 : decode cX0_init 14 = .ok (.istore_n 1, 1) := by decide +kernel
theorem dX0_init_15 : decode cX0_init 15 = .ok (.iload_n 1, 1) := by decide +kernel
theorem dX0_init_16 : decode cX0_init 16 = .ok (.aload_n 0, 1) := by decide +kernel
theorem dX0_init_17 : decode cX0_init 17 = .ok (.getfield 11, 3) := by decide +kernel
theorem dX0_init_20 : decode cX0_init 20 = .ok (.arraylength, 1) := by decide +kernel
theorem dX0_init_21 : decode cX0_init 21 = .ok (.if_icmp .ge 22, 3) := by decide +kernel
theorem dX0_init_24 : decode cX0_init 24 = .ok (.aload_n 0, 1) := by decide +kernel
theorem dX0_init_25 : decode cX0_init 25 = .ok (.getfield 11, 3) := by decide +kernel
theorem dX0_init_28 : decode cX0_init 28 = .ok (.iload_n 1, 1) := by decide +kernel
theorem dX0_init_29 : decode cX0_init 29 = .ok (.new 9, 3) := by decide +kernel
theorem dX0_init_32 : decode cX0_init 32 = .ok (.dup, 1) := by decide +kernel
theorem dX0_init_33 : decode cX0_init 33 = .ok (.invokespecial 17, 3) := by decide +kernel
theorem dX0_init_36 : decode cX0_init 36 = .ok (.aastore, 1) := by decide +kernel
theorem dX0_init_37 : decode cX0_init 37 = .ok (.iinc 1 1, 3) := by decide +kernel
theorem dX0_init_40 : decode cX0_init 40 = .ok (.goto (-25), 3) := by decide +kernel
theorem dX0_init_43 : decode cX0_init 43 = .ok (.aload_n 0, 1) := by decide +kernel
theorem dX0_init_44 : decode cX0_init 44 = .ok (.iconst 0, 1) := by decide +kernel
theorem dX0_init_45 : decode cX0_init 45 = .ok (.putfield 18, 3) := by decide +kernel
theorem dX0_init_48 : decode cX0_init 48 = .ok (.aload_n 0, 1) := by decide +kernel
theorem dX0_init_49 : decode cX0_init 49 = .ok (.iconst 0, 1) := by decide +kernel
theorem dX0_init_50 : decode cX0_init 50 = .ok (.putfield 22, 3) := by decide +kernel
theorem dX0_init_53 : decode cX0_init 53 = .ok (.return_, 1) := by decide +kernel
theorem dX0_size_0 : decode cX0_size 0 = .ok (.aload_n 0, 1) := by decide +kernel
theorem dX0_size_1 : decode cX0_size 1 = .ok (.getfield 22, 3) := by decide +kernel
theorem dX0_size_4 : decode cX0_size 4 = .ok (.ireturn, 1) := by decide +kernel
theorem dX0_keep_0 : decode cX0_keep 0 = .ok (.aload_n 0, 1) := by decide +kernel
theorem dX0_keep_1 : decode cX0_keep 1 = .ok (.getfield 18, 3) := by decide +kernel
theorem dX0_keep_4 : decode cX0_keep 4 = .ok (.ifCond .lt 40, 3) := by decide +kernel
theorem dX0_keep_7 : decode cX0_keep 7 = .ok (.aload_n 0, 1) := by decide +kernel
theorem dX0_keep_8 : decode cX0_keep 8 = .ok (.getfield 18, 3) := by decide +kernel
theorem dX0_keep_11 : decode cX0_keep 11 = .ok (.aload_n 0, 1) := by decide +kernel
theorem dX0_keep_12 : decode cX0_keep 12 = .ok (.getfield 11, 3) := by decide +kernel
theorem dX0_keep_15 : decode cX0_keep 15 = .ok (.arraylength, 1) := by decide +kernel
theorem dX0_keep_16 : decode cX0_keep 16 = .ok (.if_icmp .ge 28, 3) := by decide +kernel
theorem dX0_keep_19 : decode cX0_keep 19 = .ok (.aload_n 0, 1) := by decide +kernel
theorem dX0_keep_20 : decode cX0_keep 20 = .ok (.getfield 11, 3) := by decide +kernel
theorem dX0_keep_23 : decode cX0_keep 23 = .ok (.aload_n 0, 1) := by decide +kernel
theorem dX0_keep_24 : decode cX0_keep 24 = .ok (.getfield 18, 3) := by decide +kernel
theorem dX0_keep_27 : decode cX0_keep 27 = .ok (.aaload, 1) := by decide +kernel
theorem dX0_keep_28 : decode cX0_keep 28 = .ok (.ifnull 16, 3) := by decide +kernel
theorem dX0_keep_31 : decode cX0_keep 31 = .ok (.aload_n 0, 1) := by decide +kernel
theorem dX0_keep_32 : decode cX0_keep 32 = .ok (.getfield 11, 3) := by decide +kernel
theorem dX0_keep_35 : decode cX0_keep 35 = .ok (.aload_n 0, 1) := by decide +kernel
theorem dX0_keep_36 : decode cX0_keep 36 = .ok (.getfield 18, 3) := by decide +kernel
theorem dX0_keep_39 : decode cX0_keep 39 = .ok (.aaload, 1) := by decide +kernel
theorem dX0_keep_40 : decode cX0_keep 40 = .ok (.aload_n 1, 1) := by decide +kernel
theorem dX0_keep_41 : decode cX0_keep 41 = .ok (.invokevirtual 25, 3) := by decide +kernel
theorem dX0_keep_44 : decode cX0_keep 44 = .ok (.aload_n 0, 1) := by decide +kernel
theorem dX0_keep_45 : decode cX0_keep 45 = .ok (.aload_n 0, 1) := by decide +kernel
theorem dX0_keep_46 : decode cX0_keep 46 = .ok (.getfield 18, 3) := by decide +kernel
theorem dX0_keep_49 : decode cX0_keep 49 = .ok (.iconst 1, 1) := by decide +kernel
theorem dX0_keep_50 : decode cX0_keep 50 = .ok (.iadd, 1) := by decide +kernel
theorem dX0_keep_51 : decode cX0_keep 51 = .ok (.bipush 8, 2) := by decide +kernel
theorem dX0_keep_53 : decode cX0_keep 53 = .ok (.if_icmp .ge 12, 3) := by decide +kernel
theorem dX0_keep_56 : decode cX0_keep 56 = .ok (.aload_n 0, 1) := by decide +kernel
theorem dX0_keep_57 : decode cX0_keep 57 = .ok (.getfield 18, 3) := by decide +kernel
theorem dX0_keep_60 : decode cX0_keep 60 = .ok (.iconst 1, 1) := by decide +kernel
theorem dX0_keep_61 : decode cX0_keep 61 = .ok (.iadd, 1) := by decide +kernel
theorem dX0_keep_62 : decode cX0_keep 62 = .ok (.goto 4, 3) := by decide +kernel
theorem dX0_keep_66 : decode cX0_keep 66 = .ok (.putfield 18, 3) := by decide +kernel
theorem dX0_keep_69 : decode cX0_keep 69 = .ok (.aload_n 0, 1) := by decide +kernel
theorem dX0_keep_70 : decode cX0_keep 70 = .ok (.bipush 8, 2) := by decide +kernel
theorem dX0_keep_72 : decode cX0_keep 72 = .ok (.aload_n 0, 1) := by decide +kernel
theorem dX0_keep_73 : decode cX0_keep 73 = .ok (.getfield 22, 3) := by decide +kernel
theorem dX0_keep_76 : decode cX0_keep 76 = .ok (.iconst 1, 1) := by decide +kernel
theorem dX0_keep_77 : decode cX0_keep 77 = .ok (.iadd, 1) := by decide +kernel
theorem dX0_keep_78 : decode cX0_keep 78 = .ok (.invokestatic 29, 3) := by decide +kernel
theorem dX0_keep_81 : decode cX0_keep 81 = .ok (.putfield 22, 3) := by decide +kernel
theorem dX0_keep_84 : decode cX0_keep 84 = .ok (.return_, 1) := by decide +kernel
theorem dX1_init_0 : decode cX1_init 0 = .ok (.aload_n 0, 1) := by decide +kernel
theorem dX1_init_1 : decode cX1_init 1 = .ok (.invokespecial 3, 3) := by decide +kernel
theorem dX1_init_4 : decode cX1_init 4 = .ok (.bipush 24, 2) := by decide +kernel
theorem dX1_init_6 : decode cX1_init 6 = .ok (.istore_n 1, 1) := by decide +kernel
theorem dX1_init_7 : decode cX1_init 7 = .ok (.aload_n 0, 1) := by decide +kernel
theorem dX1_init_8 : decode cX1_init 8 = .ok (.new 9, 3) := by decide +kernel
theorem dX1_init_11 : decode cX1_init 11 = .ok (.dup, 1) := by decide +kernel
theorem dX1_init_12 : decode cX1_init 12 = .ok (.iconst 4, 1) := by decide +kernel
theorem dX1_init_13 : decode cX1_init 13 = .ok (.bipush 6, 2) := by decide +kernel
theorem dX1_init_15 : decode cX1_init 15 = .ok (.bipush 6, 2) := by decide +kernel
theorem dX1_init_17 : decode cX1_init 17 = .ok (.invokespecial 11, 3) := by decide +kernel
theorem dX1_init_20 : decode cX1_init 20 = .ok (.putfield 14, 3) := by decide +kernel
theorem dX1_init_23 : decode cX1_init 23 = .ok (.aload_n 0, 1) := by decide +kernel
theorem dX1_init_24 : decode cX1_init 24 = .ok (.new 9, 3) := by decide +kernel
theorem dX1_init_27 : decode cX1_init 27 = .ok (.dup, 1) := by decide +kernel
theorem dX1_init_28 : decode cX1_init 28 = .ok (.iconst 1, 1) := by decide +kernel
theorem dX1_init_29 : decode cX1_init 29 = .ok (.iconst 4, 1) := by decide +kernel
theorem dX1_init_30 : decode cX1_init 30 = .ok (.iconst 4, 1) := by decide +kernel
theorem dX1_init_31 : decode cX1_init 31 = .ok (.invokespecial 11, 3) := by decide +kernel
theorem dX1_init_34 : decode cX1_init 34 = .ok (.putfield 20, 3) := by decide +kernel
theorem dX1_init_37 : decode cX1_init 37 = .ok (.aload_n 0, 1) := by decide +kernel
theorem dX1_init_38 : decode cX1_init 38 = .ok (.new 9, 3) := by decide +kernel
theorem dX1_init_41 : decode cX1_init 41 = .ok (.dup, 1) := by decide +kernel
theorem dX1_init_42 : decode cX1_init 42 = .ok (.bipush 12, 2) := by decide +kernel
theorem dX1_init_44 : decode cX1_init 44 = .ok (.bipush 13, 2) := by decide +kernel
theorem dX1_init_46 : decode cX1_init 46 = .ok (.bipush 13, 2) := by decide +kernel
theorem dX1_init_48 : decode cX1_init 48 = .ok (.invokespecial 11, 3) := by decide +kernel
theorem dX1_init_51 : decode cX1_init 51 = .ok (.putfield 23, 3) := by decide +kernel
theorem dX1_init_54 : decode cX1_init 54 = .ok (.aload_n 0, 1) := by decide +kernel
theorem dX1_init_55 : decode cX1_init 55 = .ok (.new 9, 3) := by decide +kernel
theorem dX1_init_58 : decode cX1_init 58 = .ok (.dup, 1) := by decide +kernel
theorem dX1_init_59 : decode cX1_init 59 = .ok (.iconst 5, 1) := by decide +kernel
theorem dX1_init_60 : decode cX1_init 60 = .ok (.iload_n 1, 1) := by decide +kernel
theorem dX1_init_61 : decode cX1_init 61 = .ok (.iload_n 1, 1) := by decide +kernel
theorem dX1_init_62 : decode cX1_init 62 = .ok (.invokespecial 11, 3) := by decide +kernel
theorem dX1_init_65 : decode cX1_init 65 = .ok (.putfield 26, 3) := by decide +kernel
theorem dX1_init_68 : decode cX1_init 68 = .ok (.aload_n 0, 1) := by decide +kernel
theorem dX1_init_69 : decode cX1_init 69 = .ok (.new 9, 3) := by decide +kernel
theorem dX1_init_72 : decode cX1_init 72 = .ok (.dup, 1) := by decide +kernel
theorem dX1_init_73 : decode cX1_init 73 = .ok (.bipush 6, 2) := by decide +kernel
theorem dX1_init_75 : decode cX1_init 75 = .ok (.bipush 32, 2) := by decide +kernel
theorem dX1_init_77 : decode cX1_init 77 = .ok (.iload_n 1, 1) := by decide +kernel
theorem dX1_init_78 : decode cX1_init 78 = .ok (.bipush 16, 2) := by decide +kernel
theorem dX1_init_80 : decode cX1_init 80 = .ok (.imul, 1) := by decide +kernel
theorem dX1_init_81 : decode cX1_init 81 = .ok (.invokespecial 11, 3) := by decide +kernel
theorem dX1_init_84 : decode cX1_init 84 = .ok (.putfield 29, 3) := by decide +kernel
theorem dX1_init_87 : decode cX1_init 87 = .ok (.aload_n 0, 1) := by decide +kernel
theorem dX1_init_88 : decode cX1_init 88 = .ok (.new 9, 3) := by decide +kernel
theorem dX1_init_91 : decode cX1_init 91 = .ok (.dup, 1) := by decide +kernel
theorem dX1_init_92 : decode cX1_init 92 = .ok (.iconst 1, 1) := by decide +kernel
theorem dX1_init_93 : decode cX1_init 93 = .ok (.bipush 30, 2) := by decide +kernel
theorem dX1_init_95 : decode cX1_init 95 = .ok (.bipush 30, 2) := by decide +kernel
theorem dX1_init_97 : decode cX1_init 97 = .ok (.invokespecial 11, 3) := by decide +kernel
theorem dX1_init_100 : decode cX1_init 100 = .ok (.putfield 32, 3) := by decide +kernel
theorem dX1_init_103 : decode cX1_init 103 = .ok (.aload_n 0, 1) := by decide +kernel
theorem dX1_init_104 : decode cX1_init 104 = .ok (.new 9, 3) := by decide +kernel
theorem dX1_init_107 : decode cX1_init 107 = .ok (.dup, 1) := by decide +kernel
theorem dX1_init_108 : decode cX1_init 108 = .ok (.iconst 4, 1) := by decide +kernel
theorem dX1_init_109 : decode cX1_init 109 = .ok (.bipush 20, 2) := by decide +kernel
theorem dX1_init_111 : decode cX1_init 111 = .ok (.bipush 20, 2) := by decide +kernel
theorem dX1_init_113 : decode cX1_init 113 = .ok (.invokespecial 11, 3) := by decide +kernel
theorem dX1_init_116 : decode cX1_init 116 = .ok (.putfield 35, 3) := by decide +kernel
theorem dX1_init_119 : decode cX1_init 119 = .ok (.aload_n 0, 1) := by decide +kernel
theorem dX1_init_120 : decode cX1_init 120 = .ok (.new 9, 3) := by decide +kernel
theorem dX1_init_123 : decode cX1_init 123 = .ok (.dup, 1) := by decide +kernel
theorem dX1_init_124 : decode cX1_init 124 = .ok (.bipush 8, 2) := by decide +kernel
theorem dX1_init_126 : decode cX1_init 126 = .ok (.iconst 0, 1) := by decide +kernel
theorem dX1_init_127 : decode cX1_init 127 = .ok (.iconst 0, 1) := by decide +kernel
theorem dX1_init_128 : decode cX1_init 128 = .ok (.invokespecial 11, 3) := by decide +kernel
theorem dX1_init_131 : decode cX1_init 131 = .ok (.putfield 38, 3) := by decide +kernel
theorem dX1_init_134 : decode cX1_init 134 = .ok (.aload_n 0, 1) := by decide +kernel
theorem dX1_init_135 : decode cX1_init 135 = .ok (.new 9, 3) := by decide +kernel
theorem dX1_init_138 : decode cX1_init 138 = .ok (.dup, 1) := by decide +kernel
theorem dX1_init_139 : decode cX1_init 139 = .ok (.iconst 1, 1) := by decide +kernel
theorem dX1_init_140 : decode cX1_init 140 = .ok (.bipush 32, 2) := by decide +kernel
theorem dX1_init_142 : decode cX1_init 142 = .ok (.ldc 41, 2) := by decide +kernel
theorem dX1_init_144 : decode cX1_init 144 = .ok (.invokespecial 11, 3) := by decide +kernel
theorem dX1_init_147 : decode cX1_init 147 = .ok (.putfield 42, 3) := by decide +kernel
theorem dX1_init_150 : decode cX1_init 150 = .ok (.aload_n 0, 1) := by decide +kernel
theorem dX1_init_151 : decode cX1_init 151 = .ok (.new 45, 3) := by decide +kernel
theorem dX1_init_154 : decode cX1_init 154 = .ok (.dup, 1) := by decide +kernel
theorem dX1_init_155 : decode cX1_init 155 = .ok (.invokespecial 47, 3) := by decide +kernel
theorem dX1_init_158 : decode cX1_init 158 = .ok (.putfield 48, 3) := by decide +kernel
theorem dX1_init_161 : decode cX1_init 161 = .ok (.aload_n 0, 1) := by decide +kernel
theorem dX1_init_162 : decode cX1_init 162 = .ok (.new 45, 3) := by decide +kernel
theorem dX1_init_165 : decode cX1_init 165 = .ok (.dup, 1) := by decide +kernel
theorem dX1_init_166 : decode cX1_init 166 = .ok (.invokespecial 47, 3) := by decide +kernel
theorem dX1_init_169 : decode cX1_init 169 = .ok (.putfield 52, 3) := by decide +kernel
theorem dX1_init_172 : decode cX1_init 172 = .ok (.aload_n 0, 1) := by decide +kernel
theorem dX1_init_173 : decode cX1_init 173 = .ok (.bipush 6, 2) := by decide +kernel
theorem dX1_init_175 : decode cX1_init 175 = .ok (.anewarray 9, 3) := by decide +kernel
theorem dX1_init_178 : decode cX1_init 178 = .ok (.putfield 55, 3) := by decide +kernel
theorem dX1_init_181 : decode cX1_init 181 = .ok (.iconst 0, 1) := by decide +kernel
theorem dX1_init_182 : decode cX1_init 182 = .ok (.istore_n 2, 1) := by decide +kernel
theorem dX1_init_183 : decode cX1_init 183 = .ok (.iload_n 2, 1) := by decide +kernel
theorem dX1_init_184 : decode cX1_init 184 = .ok (.aload_n 0, 1) := by decide +kernel
theorem dX1_init_185 : decode cX1_init 185 = .ok (.getfield 55, 3) := by decide +kernel
theorem dX1_init_188 : decode cX1_init 188 = .ok (.arraylength, 1) := by decide +kernel
theorem dX1_init_189 : decode cX1_init 189 = .ok (.if_icmp .ge 28, 3) := by decide +kernel
theorem dX1_init_192 : decode cX1_init 192 = .ok (.aload_n 0, 1) := by decide +kernel
theorem dX1_init_193 : decode cX1_init 193 = .ok (.getfield 55, 3) := by decide +kernel
theorem dX1_init_196 : decode cX1_init 196 = .ok (.iload_n 2, 1) := by decide +kernel
theorem dX1_init_197 : decode cX1_init 197 = .ok (.new 9, 3) := by decide +kernel
theorem dX1_init_200 : decode cX1_init 200 = .ok (.dup, 1) := by decide +kernel
theorem dX1_init_201 : decode cX1_init 201 = .ok (.bipush 8, 2) := by decide +kernel
theorem dX1_init_203 : decode cX1_init 203 = .ok (.bipush 16, 2) := by decide +kernel
theorem dX1_init_205 : decode cX1_init 205 = .ok (.bipush 16, 2) := by decide +kernel
theorem dX1_init_207 : decode cX1_init 207 = .ok (.invokespecial 11, 3) := by decide +kernel
theorem dX1_init_210 : decode cX1_init 210 = .ok (.aastore, 1) := by decide +kernel
theorem dX1_init_211 : decode cX1_init 211 = .ok (.iinc 2 1, 3) := by decide +kernel
theorem dX1_init_214 : decode cX1_init 214 = .ok (.goto (-31), 3) := by decide +kernel
theorem dX1_init_217 : decode cX1_init 217 = .ok (.aload_n 0, 1) := by decide +kernel
theorem dX1_init_218 : decode cX1_init 218 = .ok (.invokevirtual 59, 3) := by decide +kernel
theorem dX1_init_221 : decode cX1_init 221 = .ok (.return_, 1) := by decide +kernel
theorem dX1_reset_0 : decode cX1_reset 0 = .ok (.aload_n 0, 1) := by decide +kernel
theorem dX1_reset_1 : decode cX1_reset 1 = .ok (.getfield 14, 3) := by decide +kernel
theorem dX1_reset_4 : decode cX1_reset 4 = .ok (.invokevirtual 62, 3) := by decide +kernel
theorem dX1_reset_7 : decode cX1_reset 7 = .ok (.aload_n 0, 1) := by decide +kernel
theorem dX1_reset_8 : decode cX1_reset 8 = .ok (.getfield 20, 3) := by decide +kernel
theorem dX1_reset_11 : decode cX1_reset 11 = .ok (.invokevirtual 62, 3) := by decide +kernel
theorem dX1_reset_14 : decode cX1_reset 14 = .ok (.aload_n 0, 1) := by decide +kernel
theorem dX1_reset_15 : decode cX1_reset 15 = .ok (.getfield 23, 3) := by decide +kernel
theorem dX1_reset_18 : decode cX1_reset 18 = .ok (.invokevirtual 62, 3) := by decide +kernel
theorem dX1_reset_21 : decode cX1_reset 21 = .ok (.aload_n 0, 1) := by decide +kernel
theorem dX1_reset_22 : decode cX1_reset 22 = .ok (.getfield 26, 3) := by decide +kernel
theorem dX1_reset_25 : decode cX1_reset 25 = .ok (.invokevirtual 62, 3) := by decide +kernel
theorem dX1_reset_28 : decode cX1_reset 28 = .ok (.iconst 0, 1) := by decide +kernel
theorem dX1_reset_29 : decode cX1_reset 29 = .ok (.istore_n 1, 1) := by decide +kernel
theorem dX1_reset_30 : decode cX1_reset 30 = .ok (.iload_n 1, 1) := by decide +kernel
theorem dX1_reset_31 : decode cX1_reset 31 = .ok (.bipush 24, 2) := by decide +kernel
theorem dX1_reset_33 : decode cX1_reset 33 = .ok (.if_icmp .ge 17, 3) := by decide +kernel
theorem dX1_reset_36 : decode cX1_reset 36 = .ok (.aload_n 0, 1) := by decide +kernel
theorem dX1_reset_37 : decode cX1_reset 37 = .ok (.getfield 26, 3) := by decide +kernel
theorem dX1_reset_40 : decode cX1_reset 40 = .ok (.invokevirtual 65, 3) := by decide +kernel
theorem dX1_reset_43 : decode cX1_reset 43 = .ok (.pop, 1) := by decide +kernel
theorem dX1_reset_44 : decode cX1_reset 44 = .ok (.iinc 1 1, 3) := by decide +kernel
theorem dX1_reset_47 : decode cX1_reset 47 = .ok (.goto (-17), 3) := by decide +kernel
theorem dX1_reset_50 : decode cX1_reset 50 = .ok (.aload_n 0, 1) := by decide +kernel
theorem dX1_reset_51 : decode cX1_reset 51 = .ok (.getfield 48, 3) := by decide +kernel
theorem dX1_reset_54 : decode cX1_reset 54 = .ok (.invokevirtual 69, 3) := by decide +kernel
theorem dX1_reset_57 : decode cX1_reset 57 = .ok (.aload_n 0, 1) := by decide +kernel
theorem dX1_reset_58 : decode cX1_reset 58 = .ok (.getfield 52, 3) := by decide +kernel
theorem dX1_reset_61 : decode cX1_reset 61 = .ok (.invokevirtual 69, 3) := by decide +kernel
theorem dX1_reset_64 : decode cX1_reset 64 = .ok (.aload_n 0, 1) := by decide +kernel
theorem dX1_reset_65 : decode cX1_reset 65 = .ok (.getfield 29, 3) := by decide +kernel
theorem dX1_reset_68 : decode cX1_reset 68 = .ok (.invokevirtual 62, 3) := by decide +kernel
theorem dX1_reset_71 : decode cX1_reset 71 = .ok (.aload_n 0, 1) := by decide +kernel
theorem dX1_reset_72 : decode cX1_reset 72 = .ok (.getfield 32, 3) := by decide +kernel
theorem dX1_reset_75 : decode cX1_reset 75 = .ok (.invokevirtual 62, 3) := by decide +kernel
theorem dX1_reset_78 : decode cX1_reset 78 = .ok (.aload_n 0, 1) := by decide +kernel
theorem dX1_reset_79 : decode cX1_reset 79 = .ok (.getfield 35, 3) := by decide +kernel
theorem dX1_reset_82 : decode cX1_reset 82 = .ok (.invokevirtual 62, 3) := by decide +kernel
theorem dX1_reset_85 : decode cX1_reset 85 = .ok (.iconst 0, 1) := by decide +kernel
theorem dX1_reset_86 : decode cX1_reset 86 = .ok (.istore_n 1, 1) := by decide +kernel
theorem dX1_reset_87 : decode cX1_reset 87 = .ok (.iload_n 1, 1) := by decide +kernel
theorem dX1_reset_88 : decode cX1_reset 88 = .ok (.bipush 20, 2) := by decide +kernel
theorem dX1_reset_90 : decode cX1_reset 90 = .ok (.if_icmp .ge 17, 3) := by decide +kernel
theorem dX1_reset_93 : decode cX1_reset 93 = .ok (.aload_n 0, 1) := by decide +kernel
theorem dX1_reset_94 : decode cX1_reset 94 = .ok (.getfield 35, 3) := by decide +kernel
theorem dX1_reset_97 : decode cX1_reset 97 = .ok (.invokevirtual 65, 3) := by decide +kernel
theorem dX1_reset_100 : decode cX1_reset 100 = .ok (.pop, 1) := by decide +kernel
theorem dX1_reset_101 : decode cX1_reset 101 = .ok (.iinc 1 1, 3) := by decide +kernel
theorem dX1_reset_104 : decode cX1_reset 104 = .ok (.goto (-17), 3) := by decide +kernel
theorem dX1_reset_107 : decode cX1_reset 107 = .ok (.iconst 0, 1) := by decide +kernel
theorem dX1_reset_108 : decode cX1_reset 108 = .ok (.istore_n 1, 1) := by decide +kernel
theorem dX1_reset_109 : decode cX1_reset 109 = .ok (.iload_n 1, 1) := by decide +kernel
theorem dX1_reset_110 : decode cX1_reset 110 = .ok (.bipush 6, 2) := by decide +kernel
theorem dX1_reset_112 : decode cX1_reset 112 = .ok (.if_icmp .ge 17, 3) := by decide +kernel
theorem dX1_reset_115 : decode cX1_reset 115 = .ok (.aload_n 0, 1) := by decide +kernel
theorem dX1_reset_116 : decode cX1_reset 116 = .ok (.iload_n 1, 1) := by decide +kernel
theorem dX1_reset_117 : decode cX1_reset 117 = .ok (.invokevirtual 70, 3) := by decide +kernel
theorem dX1_reset_120 : decode cX1_reset 120 = .ok (.invokevirtual 62, 3) := by decide +kernel
theorem dX1_reset_123 : decode cX1_reset 123 = .ok (.iinc 1 1, 3) := by decide +kernel
theorem dX1_reset_126 : decode cX1_reset 126 = .ok (.goto (-17), 3) := by decide +kernel
theorem dX1_reset_129 : decode cX1_reset 129 = .ok (.aload_n 0, 1) := by decide +kernel
theorem dX1_reset_130 : decode cX1_reset 130 = .ok (.iconst 0, 1) := by decide +kernel
theorem dX1_reset_131 : decode cX1_reset 131 = .ok (.putfield 74, 3) := by decide +kernel
theorem dX1_reset_134 : decode cX1_reset 134 = .ok (.aload_n 0, 1) := by decide +kernel
theorem dX1_reset_135 : decode cX1_reset 135 = .ok (.lconst 0, 1) := by decide +kernel
theorem dX1_reset_136 : decode cX1_reset 136 = .ok (.putfield 78, 3) := by decide +kernel
theorem dX1_reset_139 : decode cX1_reset 139 = .ok (.aload_n 0, 1) := by decide +kernel
theorem dX1_reset_140 : decode cX1_reset 140 = .ok (.iconst 0, 1) := by decide +kernel
theorem dX1_reset_141 : decode cX1_reset 141 = .ok (.putfield 82, 3) := by decide +kernel
theorem dX1_reset_144 : decode cX1_reset 144 = .ok (.aload_n 0, 1) := by decide +kernel
theorem dX1_reset_145 : decode cX1_reset 145 = .ok (.iconst 0, 1) := by decide +kernel
theorem dX1_reset_146 : decode cX1_reset 146 = .ok (.putfield 85, 3) := by decide +kernel
theorem dX1_reset_149 : decode cX1_reset 149 = .ok (.aload_n 0, 1) := by decide +kernel
theorem dX1_reset_150 : decode cX1_reset 150 = .ok (.iconst 0, 1) := by decide +kernel
theorem dX1_reset_151 : decode cX1_reset 151 = .ok (.putfield 88, 3) := by decide +kernel
theorem dX1_reset_154 : decode cX1_reset 154 = .ok (.aload_n 0, 1) := by decide +kernel
theorem dX1_reset_155 : decode cX1_reset 155 = .ok (.iconst 0, 1) := by decide +kernel
theorem dX1_reset_156 : decode cX1_reset 156 = .ok (.putfield 91, 3) := by decide +kernel
theorem dX1_reset_159 : decode cX1_reset 159 = .ok (.aload_n 0, 1) := by decide +kernel
theorem dX1_reset_160 : decode cX1_reset 160 = .ok (.iconst 0, 1) := by decide +kernel
theorem dX1_reset_161 : decode cX1_reset 161 = .ok (.putfield 94, 3) := by decide +kernel
theorem dX1_reset_164 : decode cX1_reset 164 = .ok (.return_, 1) := by decide +kernel
theorem dX1_copyFrom_0 : decode cX1_copyFrom 0 = .ok (.aload_n 0, 1) := by decide +kernel
theorem dX1_copyFrom_1 : decode cX1_copyFrom 1 = .ok (.getfield 14, 3) := by decide +kernel
theorem dX1_copyFrom_4 : decode cX1_copyFrom 4 = .ok (.aload_n 1, 1) := by decide +kernel
theorem dX1_copyFrom_5 : decode cX1_copyFrom 5 = .ok (.getfield 14, 3) := by decide +kernel
theorem dX1_copyFrom_8 : decode cX1_copyFrom 8 = .ok (.invokevirtual 97, 3) := by decide +kernel
theorem dX1_copyFrom_11 : decode cX1_copyFrom 11 = .ok (.aload_n 0, 1) := by decide +kernel
theorem dX1_copyFrom_12 : decode cX1_copyFrom 12 = .ok (.getfield 20, 3) := by decide +kernel
theorem dX1_copyFrom_15 : decode cX1_copyFrom 15 = .ok (.aload_n 1, 1) := by decide +kernel
theorem dX1_copyFrom_16 : decode cX1_copyFrom 16 = .ok (.getfield 20, 3) := by decide +kernel
theorem dX1_copyFrom_19 : decode cX1_copyFrom 19 = .ok (.invokevirtual 97, 3) := by decide +kernel
theorem dX1_copyFrom_22 : decode cX1_copyFrom 22 = .ok (.aload_n 0, 1) := by decide +kernel
theorem dX1_copyFrom_23 : decode cX1_copyFrom 23 = .ok (.getfield 23, 3) := by decide +kernel
theorem dX1_copyFrom_26 : decode cX1_copyFrom 26 = .ok (.aload_n 1, 1) := by decide +kernel
theorem dX1_copyFrom_27 : decode cX1_copyFrom 27 = .ok (.getfield 23, 3) := by decide +kernel
theorem dX1_copyFrom_30 : decode cX1_copyFrom 30 = .ok (.invokevirtual 97, 3) := by decide +kernel
theorem dX1_copyFrom_33 : decode cX1_copyFrom 33 = .ok (.aload_n 0, 1) := by decide +kernel
theorem dX1_copyFrom_34 : decode cX1_copyFrom 34 = .ok (.getfield 26, 3) := by decide +kernel
theorem dX1_copyFrom_37 : decode cX1_copyFrom 37 = .ok (.aload_n 1, 1) := by decide +kernel
theorem dX1_copyFrom_38 : decode cX1_copyFrom 38 = .ok (.getfield 26, 3) := by decide +kernel
theorem dX1_copyFrom_41 : decode cX1_copyFrom 41 = .ok (.invokevirtual 97, 3) := by decide +kernel
theorem dX1_copyFrom_44 : decode cX1_copyFrom 44 = .ok (.aload_n 0, 1) := by decide +kernel
theorem dX1_copyFrom_45 : decode cX1_copyFrom 45 = .ok (.getfield 48, 3) := by decide +kernel
theorem dX1_copyFrom_48 : decode cX1_copyFrom 48 = .ok (.aload_n 1, 1) := by decide +kernel
theorem dX1_copyFrom_49 : decode cX1_copyFrom 49 = .ok (.getfield 48, 3) := by decide +kernel
theorem dX1_copyFrom_52 : decode cX1_copyFrom 52 = .ok (.invokevirtual 101, 3) := by decide +kernel
theorem dX1_copyFrom_55 : decode cX1_copyFrom 55 = .ok (.aload_n 0, 1) := by decide +kernel
theorem dX1_copyFrom_56 : decode cX1_copyFrom 56 = .ok (.getfield 52, 3) := by decide +kernel
theorem dX1_copyFrom_59 : decode cX1_copyFrom 59 = .ok (.aload_n 1, 1) := by decide +kernel
theorem dX1_copyFrom_60 : decode cX1_copyFrom 60 = .ok (.getfield 52, 3) := by decide +kernel
theorem dX1_copyFrom_63 : decode cX1_copyFrom 63 = .ok (.invokevirtual 101, 3) := by decide +kernel
theorem dX1_copyFrom_66 : decode cX1_copyFrom 66 = .ok (.aload_n 0, 1) := by decide +kernel
theorem dX1_copyFrom_67 : decode cX1_copyFrom 67 = .ok (.getfield 29, 3) := by decide +kernel
theorem dX1_copyFrom_70 : decode cX1_copyFrom 70 = .ok (.aload_n 1, 1) := by decide +kernel
theorem dX1_copyFrom_71 : decode cX1_copyFrom 71 = .ok (.getfield 29, 3) := by decide +kernel
theorem dX1_copyFrom_74 : decode cX1_copyFrom 74 = .ok (.invokevirtual 97, 3) := by decide +kernel
theorem dX1_copyFrom_77 : decode cX1_copyFrom 77 = .ok (.aload_n 0, 1) := by decide +kernel
theorem dX1_copyFrom_78 : decode cX1_copyFrom 78 = .ok (.getfield 32, 3) := by decide +kernel
theorem dX1_copyFrom_81 : decode cX1_copyFrom 81 = .ok (.aload_n 1, 1) := by decide +kernel
theorem dX1_copyFrom_82 : decode cX1_copyFrom 82 = .ok (.getfield 32, 3) := by decide +kernel
theorem dX1_copyFrom_85 : decode cX1_copyFrom 85 = .ok (.invokevirtual 97, 3) := by decide +kernel
theorem dX1_copyFrom_88 : decode cX1_copyFrom 88 = .ok (.aload_n 0, 1) := by decide +kernel
theorem dX1_copyFrom_89 : decode cX1_copyFrom 89 = .ok (.getfield 35, 3) := by decide +kernel
theorem dX1_copyFrom_92 : decode cX1_copyFrom 92 = .ok (.aload_n 1, 1) := by decide +kernel
theorem dX1_copyFrom_93 : decode cX1_copyFrom 93 = .ok (.getfield 35, 3) := by decide +kernel
theorem dX1_copyFrom_96 : decode cX1_copyFrom 96 = .ok (.invokevirtual 97, 3) := by decide +kernel
theorem dX1_copyFrom_99 : decode cX1_copyFrom 99 = .ok (.iconst 0, 1) := by decide +kernel
theorem dX1_copyFrom_100 : decode cX1_copyFrom 100 = .ok (.istore_n 2, 1) := by decide +kernel
theorem dX1_copyFrom_101 : decode cX1_copyFrom 101 = .ok (.iload_n 2, 1) := by decide +kernel
theorem dX1_copyFrom_102 : decode cX1_copyFrom 102 = .ok (.bipush 6, 2) := by decide +kernel
theorem dX1_copyFrom_104 : decode cX1_copyFrom 104 = .ok (.if_icmp .ge 22, 3) := by decide +kernel
theorem dX1_copyFrom_107 : decode cX1_copyFrom 107 = .ok (.aload_n 0, 1) := by decide +kernel
theorem dX1_copyFrom_108 : decode cX1_copyFrom 108 = .ok (.iload_n 2, 1) := by decide +kernel
theorem dX1_copyFrom_109 : decode cX1_copyFrom 109 = .ok (.invokevirtual 70, 3) := by decide +kernel
theorem dX1_copyFrom_112 : decode cX1_copyFrom 112 = .ok (.aload_n 1, 1) := by decide +kernel
theorem dX1_copyFrom_113 : decode cX1_copyFrom 113 = .ok (.iload_n 2, 1) := by decide +kernel
theorem dX1_copyFrom_114 : decode cX1_copyFrom 114 = .ok (.invokevirtual 70, 3) := by decide +kernel
theorem dX1_copyFrom_117 : decode cX1_copyFrom 117 = .ok (.invokevirtual 97, 3) := by decide +kernel
theorem dX1_copyFrom_120 : decode cX1_copyFrom 120 = .ok (.iinc 2 1, 3) := by decide +kernel
theorem dX1_copyFrom_123 : decode cX1_copyFrom 123 = .ok (.goto (-22), 3) := by decide +kernel
theorem dX1_copyFrom_126 : decode cX1_copyFrom 126 = .ok (.aload_n 0, 1) := by decide +kernel
theorem dX1_copyFrom_127 : decode cX1_copyFrom 127 = .ok (.aload_n 1, 1) := by decide +kernel
theorem dX1_copyFrom_128 : decode cX1_copyFrom 128 = .ok (.getfield 74, 3) := by decide +kernel
theorem dX1_copyFrom_131 : decode cX1_copyFrom 131 = .ok (.putfield 74, 3) := by decide +kernel
theorem dX1_copyFrom_134 : decode cX1_copyFrom 134 = .ok (.aload_n 0, 1) := by decide +kernel
theorem dX1_copyFrom_135 : decode cX1_copyFrom 135 = .ok (.aload_n 1, 1) := by decide +kernel
theorem dX1_copyFrom_136 : decode cX1_copyFrom 136 = .ok (.getfield 78, 3) := by decide +kernel
theorem dX1_copyFrom_139 : decode cX1_copyFrom 139 = .ok (.putfield 78, 3) := by decide +kernel
theorem dX1_copyFrom_142 : decode cX1_copyFrom 142 = .ok (.aload_n 0, 1) := by decide +kernel
theorem dX1_copyFrom_143 : decode cX1_copyFrom 143 = .ok (.aload_n 1, 1) := by decide +kernel
theorem dX1_copyFrom_144 : decode cX1_copyFrom 144 = .ok (.getfield 82, 3) := by decide +kernel
theorem dX1_copyFrom_147 : decode cX1_copyFrom 147 = .ok (.putfield 82, 3) := by decide +kernel
theorem dX1_copyFrom_150 : decode cX1_copyFrom 150 = .ok (.aload_n 0, 1) := by decide +kernel
theorem dX1_copyFrom_151 : decode cX1_copyFrom 151 = .ok (.aload_n 1, 1) := by decide +kernel
theorem dX1_copyFrom_152 : decode cX1_copyFrom 152 = .ok (.getfield 85, 3) := by decide +kernel
theorem dX1_copyFrom_155 : decode cX1_copyFrom 155 = .ok (.putfield 85, 3) := by decide +kernel
theorem dX1_copyFrom_158 : decode cX1_copyFrom 158 = .ok (.aload_n 0, 1) := by decide +kernel
theorem dX1_copyFrom_159 : decode cX1_copyFrom 159 = .ok (.aload_n 1, 1) := by decide +kernel
theorem dX1_copyFrom_160 : decode cX1_copyFrom 160 = .ok (.getfield 88, 3) := by decide +kernel
theorem dX1_copyFrom_163 : decode cX1_copyFrom 163 = .ok (.putfield 88, 3) := by decide +kernel
theorem dX1_copyFrom_166 : decode cX1_copyFrom 166 = .ok (.aload_n 0, 1) := by decide +kernel
theorem dX1_copyFrom_167 : decode cX1_copyFrom 167 = .ok (.aload_n 1, 1) := by decide +kernel
theorem dX1_copyFrom_168 : decode cX1_copyFrom 168 = .ok (.getfield 91, 3) := by decide +kernel
theorem dX1_copyFrom_171 : decode cX1_copyFrom 171 = .ok (.putfield 91, 3) := by decide +kernel
theorem dX1_copyFrom_174 : decode cX1_copyFrom 174 = .ok (.aload_n 0, 1) := by decide +kernel
theorem dX1_copyFrom_175 : decode cX1_copyFrom 175 = .ok (.aload_n 1, 1) := by decide +kernel
theorem dX1_copyFrom_176 : decode cX1_copyFrom 176 = .ok (.getfield 94, 3) := by decide +kernel
theorem dX1_copyFrom_179 : decode cX1_copyFrom 179 = .ok (.putfield 94, 3) := by decide +kernel
theorem dX1_copyFrom_182 : decode cX1_copyFrom 182 = .ok (.return_, 1) := by decide +kernel
theorem dX1_cacheOf_0 : decode cX1_cacheOf 0 = .ok (.iload_n 1, 1) := by decide +kernel
theorem dX1_cacheOf_1 : decode cX1_cacheOf 1 = .ok (.ifCond .lt 12, 3) := by decide +kernel
theorem dX1_cacheOf_4 : decode cX1_cacheOf 4 = .ok (.iload_n 1, 1) := by decide +kernel
theorem dX1_cacheOf_5 : decode cX1_cacheOf 5 = .ok (.aload_n 0, 1) := by decide +kernel
theorem dX1_cacheOf_6 : decode cX1_cacheOf 6 = .ok (.getfield 55, 3) := by decide +kernel
theorem dX1_cacheOf_9 : decode cX1_cacheOf 9 = .ok (.arraylength, 1) := by decide +kernel
theorem dX1_cacheOf_10 : decode cX1_cacheOf 10 = .ok (.if_icmp .lt 10, 3) := by decide +kernel
theorem dX1_cacheOf_20 : decode cX1_cacheOf 20 = .ok (.aload_n 0, 1) := by decide +kernel
theorem dX1_cacheOf_21 : decode cX1_cacheOf 21 = .ok (.getfield 55, 3) := by decide +kernel
theorem dX1_cacheOf_24 : decode cX1_cacheOf 24 = .ok (.iload_n 1, 1) := by decide +kernel
theorem dX1_cacheOf_25 : decode cX1_cacheOf 25 = .ok (.aaload, 1) := by decide +kernel
theorem dX1_cacheOf_26 : decode cX1_cacheOf 26 = .ok (.astore_n 2, 1) := by decide +kernel
theorem dX1_cacheOf_27 : decode cX1_cacheOf 27 = .ok (.aload_n 2, 1) := by decide +kernel
theorem dX1_cacheOf_28 : decode cX1_cacheOf 28 = .ok (.ifnonnull 10, 3) := by decide +kernel
theorem dX1_cacheOf_31 : decode cX1_cacheOf 31 = .ok (.aload_n 0, 1) := by decide +kernel
theorem dX1_cacheOf_32 : decode cX1_cacheOf 32 = .ok (.getfield 38, 3) := by decide +kernel
theorem dX1_cacheOf_35 : decode cX1_cacheOf 35 = .ok (.goto 4, 3) := by decide +kernel
theorem dX1_cacheOf_38 : decode cX1_cacheOf 38 = .ok (.aload_n 2, 1) := by decide +kernel
theorem dX1_cacheOf_39 : decode cX1_cacheOf 39 = .ok (.areturn, 1) := by decide +kernel
theorem dX1_browserOf_0 : decode cX1_browserOf 0 = .ok (.iload_n 0, 1) := by decide +kernel
theorem dX1_browserOf_1 : decode cX1_browserOf 1 = .ok (.iconst 4, 1) := by decide +kernel
theorem dX1_browserOf_2 : decode cX1_browserOf 2 = .ok (.imul, 1) := by decide +kernel
theorem dX1_browserOf_3 : decode cX1_browserOf 3 = .ok (.iload_n 1, 1) := by decide +kernel
theorem dX1_browserOf_4 : decode cX1_browserOf 4 = .ok (.iadd, 1) := by decide +kernel
theorem dX1_browserOf_5 : decode cX1_browserOf 5 = .ok (.ireturn, 1) := by decide +kernel
theorem dX1_isOn_0 : decode cX1_isOn 0 = .ok (.aload_n 0, 1) := by decide +kernel
theorem dX1_isOn_1 : decode cX1_isOn 1 = .ok (.getfield 14, 3) := by decide +kernel
theorem dX1_isOn_4 : decode cX1_isOn 4 = .ok (.iload_n 1, 1) := by decide +kernel
theorem dX1_isOn_5 : decode cX1_isOn 5 = .ok (.iconst 1, 1) := by decide +kernel
theorem dX1_isOn_6 : decode cX1_isOn 6 = .ok (.invokevirtual 104, 3) := by decide +kernel
theorem dX1_isOn_9 : decode cX1_isOn 9 = .ok (.ifCond .ne 7, 3) := by decide +kernel
theorem dX1_isOn_12 : decode cX1_isOn 12 = .ok (.iconst 1, 1) := by decide +kernel
theorem dX1_isOn_13 : decode cX1_isOn 13 = .ok (.goto 4, 3) := by decide +kernel
theorem dX1_isOn_16 : decode cX1_isOn 16 = .ok (.iconst 0, 1) := by decide +kernel
theorem dX1_isOn_17 : decode cX1_isOn 17 = .ok (.ireturn, 1) := by decide +kernel
theorem dX1_isOnSameSide_0 : decode cX1_isOnSameSide 0 = .ok (.aload_n 0, 1) := by decide +kernel
theorem dX1_isOnSameSide_1 : decode cX1_isOnSameSide 1 = .ok (.getfield 14, 3) := by decide +kernel
theorem dX1_isOnSameSide_4 : decode cX1_isOnSameSide 4 = .ok (.iload_n 1, 1) := by decide +kernel
theorem dX1_isOnSameSide_5 : decode cX1_isOnSameSide 5 = .ok (.iconst 2, 1) := by decide +kernel
theorem dX1_isOnSameSide_6 : decode cX1_isOnSameSide 6 = .ok (.invokevirtual 104, 3) := by decide +kernel
theorem dX1_isOnSameSide_9 : decode cX1_isOnSameSide 9 = .ok (.aload_n 0, 1) := by decide +kernel
theorem dX1_isOnSameSide_10 : decode cX1_isOnSameSide 10 = .ok (.getfield 14, 3) := by decide +kernel
theorem dX1_isOnSameSide_13 : decode cX1_isOnSameSide 13 = .ok (.iload_n 2, 1) := by decide +kernel
theorem dX1_isOnSameSide_14 : decode cX1_isOnSameSide 14 = .ok (.iconst 2, 1) := by decide +kernel
theorem dX1_isOnSameSide_15 : decode cX1_isOnSameSide 15 = .ok (.invokevirtual 104, 3) := by decide +kernel
theorem dX1_isOnSameSide_18 : decode cX1_isOnSameSide 18 = .ok (.if_icmp .ne 7, 3) := by decide +kernel
theorem dX1_isOnSameSide_21 : decode cX1_isOnSameSide 21 = .ok (.iconst 1, 1) := by decide +kernel
theorem dX1_isOnSameSide_22 : decode cX1_isOnSameSide 22 = .ok (.goto 4, 3) := by decide +kernel
theorem dX1_isOnSameSide_26 : decode cX1_isOnSameSide 26 = .ok (.ireturn, 1) := by decide +kernel
theorem dX1_isBrowsing_0 : decode cX1_isBrowsing 0 = .ok (.aload_n 0, 1) := by decide +kernel
theorem dX1_isBrowsing_1 : decode cX1_isBrowsing 1 = .ok (.getfield 26, 3) := by decide +kernel
theorem dX1_isBrowsing_4 : decode cX1_isBrowsing 4 = .ok (.iload_n 1, 1) := by decide +kernel
theorem dX1_isBrowsing_5 : decode cX1_isBrowsing 5 = .ok (.iload_n 2, 1) := by decide +kernel
theorem dX1_isBrowsing_6 : decode cX1_isBrowsing 6 = .ok (.invokestatic 108, 3) := by decide +kernel
theorem dX1_isBrowsing_9 : decode cX1_isBrowsing 9 = .ok (.iconst 4, 1) := by decide +kernel
theorem dX1_isBrowsing_10 : decode cX1_isBrowsing 10 = .ok (.invokevirtual 104, 3) := by decide +kernel
theorem dX1_isBrowsing_13 : decode cX1_isBrowsing 13 = .ok (.iconst 1, 1) := by decide +kernel
theorem dX1_isBrowsing_14 : decode cX1_isBrowsing 14 = .ok (.if_icmp .ne 7, 3) := by decide +kernel
theorem dX1_isBrowsing_17 : decode cX1_isBrowsing 17 = .ok (.iconst 1, 1) := by decide +kernel
theorem dX1_isBrowsing_18 : decode cX1_isBrowsing 18 = .ok (.goto 4, 3) := by decide +kernel
theorem dX1_isBrowsing_21 : decode cX1_isBrowsing 21 = .ok (.iconst 0, 1) := by decide +kernel
theorem dX1_isBrowsing_22 : decode cX1_isBrowsing 22 = .ok (.ireturn, 1) := by decide +kernel
theorem dX1_holdsName_0 : decode cX1_holdsName 0 = .ok (.aload_n 0, 1) := by decide +kernel
theorem dX1_holdsName_1 : decode cX1_holdsName 1 = .ok (.getfield 23, 3) := by decide +kernel
theorem dX1_holdsName_4 : decode cX1_holdsName 4 = .ok (.iload_n 1, 1) := by decide +kernel
theorem dX1_holdsName_5 : decode cX1_holdsName 5 = .ok (.bipush 6, 2) := by decide +kernel
theorem dX1_holdsName_7 : decode cX1_holdsName 7 = .ok (.invokevirtual 104, 3) := by decide +kernel
theorem dX1_holdsName_10 : decode cX1_holdsName 10 = .ok (.istore_n 2, 1) := by decide +kernel
theorem dX1_holdsName_11 : decode cX1_holdsName 11 = .ok (.iload_n 2, 1) := by decide +kernel
theorem dX1_holdsName_12 : decode cX1_holdsName 12 = .ok (.iconst 1, 1) := by decide +kernel
theorem dX1_holdsName_13 : decode cX1_holdsName 13 = .ok (.if_icmp .eq 8, 3) := by decide +kernel
theorem dX1_holdsName_16 : decode cX1_holdsName 16 = .ok (.iload_n 2, 1) := by decide +kernel
theorem dX1_holdsName_17 : decode cX1_holdsName 17 = .ok (.iconst 2, 1) := by decide +kernel
theorem dX1_holdsName_18 : decode cX1_holdsName 18 = .ok (.if_icmp .ne 7, 3) := by decide +kernel
theorem dX1_holdsName_21 : decode cX1_holdsName 21 = .ok (.iconst 1, 1) := by decide +kernel
theorem dX1_holdsName_22 : decode cX1_holdsName 22 = .ok (.goto 4, 3) := by decide +kernel
theorem dX1_holdsName_25 : decode cX1_holdsName 25 = .ok (.iconst 0, 1) := by decide +kernel
theorem dX1_holdsName_26 : decode cX1_holdsName 26 = .ok (.ireturn, 1) := by decide +kernel
theorem dX1_hostsOn_0 : decode cX1_hostsOn 0 = .ok (.iconst 0, 1) := by decide +kernel
theorem dX1_hostsOn_1 : decode cX1_hostsOn 1 = .ok (.istore_n 1, 1) := by decide +kernel
theorem dX1_hostsOn_2 : decode cX1_hostsOn 2 = .ok (.iconst 0, 1) := by decide +kernel
theorem dX1_hostsOn_3 : decode cX1_hostsOn 3 = .ok (.istore_n 2, 1) := by decide +kernel
theorem dX1_hostsOn_4 : decode cX1_hostsOn 4 = .ok (.iload_n 2, 1) := by decide +kernel
theorem dX1_hostsOn_5 : decode cX1_hostsOn 5 = .ok (.aload_n 0, 1) := by decide +kernel
theorem dX1_hostsOn_6 : decode cX1_hostsOn 6 = .ok (.getfield 14, 3) := by decide +kernel
theorem dX1_hostsOn_9 : decode cX1_hostsOn 9 = .ok (.invokevirtual 111, 3) := by decide +kernel
theorem dX1_hostsOn_12 : decode cX1_hostsOn 12 = .ok (.if_icmp .ge 25, 3) := by decide +kernel
theorem dX1_hostsOn_15 : decode cX1_hostsOn 15 = .ok (.iload_n 1, 1) := by decide +kernel
theorem dX1_hostsOn_16 : decode cX1_hostsOn 16 = .ok (.aload_n 0, 1) := by decide +kernel
theorem dX1_hostsOn_17 : decode cX1_hostsOn 17 = .ok (.iload_n 2, 1) := by decide +kernel
theorem dX1_hostsOn_18 : decode cX1_hostsOn 18 = .ok (.invokevirtual 114, 3) := by decide +kernel
theorem dX1_hostsOn_21 : decode cX1_hostsOn 21 = .ok (.ifCond .eq 7, 3) := by decide +kernel
theorem dX1_hostsOn_24 : decode cX1_hostsOn 24 = .ok (.iconst 1, 1) := by decide +kernel
theorem dX1_hostsOn_25 : decode cX1_hostsOn 25 = .ok (.goto 4, 3) := by decide +kernel
theorem dX1_hostsOn_28 : decode cX1_hostsOn 28 = .ok (.iconst 0, 1) := by decide +kernel
theorem dX1_hostsOn_29 : decode cX1_hostsOn 29 = .ok (.iadd, 1) := by decide +kernel
theorem dX1_hostsOn_30 : decode cX1_hostsOn 30 = .ok (.istore_n 1, 1) := by decide +kernel
theorem dX1_hostsOn_31 : decode cX1_hostsOn 31 = .ok (.iinc 2 1, 3) := by decide +kernel
theorem dX1_hostsOn_34 : decode cX1_hostsOn 34 = .ok (.goto (-30), 3) := by decide +kernel
theorem dX1_hostsOn_37 : decode cX1_hostsOn 37 = .ok (.iload_n 1, 1) := by decide +kernel
theorem dX1_hostsOn_38 : decode cX1_hostsOn 38 = .ok (.ireturn, 1) := by decide +kernel
theorem dX1_servicesOf_0 : decode cX1_servicesOf 0 = .ok (.iconst 0, 1) := by decide +kernel
theorem dX1_servicesOf_1 : decode cX1_servicesOf 1 = .ok (.istore_n 2, 1) := by decide +kernel
theorem dX1_servicesOf_2 : decode cX1_servicesOf 2 = .ok (.iconst 0, 1) := by decide +kernel
theorem dX1_servicesOf_3 : decode cX1_servicesOf 3 = .ok (.istore_n 3, 1) := by decide +kernel
theorem dX1_servicesOf_4 : decode cX1_servicesOf 4 = .ok (.iload_n 3, 1) := by decide +kernel
theorem dX1_servicesOf_5 : decode cX1_servicesOf 5 = .ok (.aload_n 0, 1) := by decide +kernel
theorem dX1_servicesOf_6 : decode cX1_servicesOf 6 = .ok (.getfield 23, 3) := by decide +kernel
theorem dX1_servicesOf_9 : decode cX1_servicesOf 9 = .ok (.invokevirtual 111, 3) := by decide +kernel
theorem dX1_servicesOf_12 : decode cX1_servicesOf 12 = .ok (.if_icmp .ge 56, 3) := by decide +kernel
theorem dX1_servicesOf_15 : decode cX1_servicesOf 15 = .ok (.aload_n 0, 1) := by decide +kernel
theorem dX1_servicesOf_16 : decode cX1_servicesOf 16 = .ok (.getfield 23, 3) := by decide +kernel
theorem dX1_servicesOf_19 : decode cX1_servicesOf 19 = .ok (.iload_n 3, 1) := by decide +kernel
theorem dX1_servicesOf_20 : decode cX1_servicesOf 20 = .ok (.bipush 6, 2) := by decide +kernel
theorem dX1_servicesOf_22 : decode cX1_servicesOf 22 = .ok (.invokevirtual 104, 3) := by decide +kernel
theorem dX1_servicesOf_25 : decode cX1_servicesOf 25 = .ok (.iconst 3, 1) := by decide +kernel
theorem dX1_servicesOf_26 : decode cX1_servicesOf 26 = .ok (.if_icmp .eq 7, 3) := by decide +kernel
theorem dX1_servicesOf_29 : decode cX1_servicesOf 29 = .ok (.iconst 1, 1) := by decide +kernel
theorem dX1_servicesOf_30 : decode cX1_servicesOf 30 = .ok (.goto 4, 3) := by decide +kernel
theorem dX1_servicesOf_34 : decode cX1_servicesOf 34 = .ok (.istore 4, 2) := by decide +kernel
theorem dX1_servicesOf_36 : decode cX1_servicesOf 36 = .ok (.iload_n 2, 1) := by decide +kernel
theorem dX1_servicesOf_37 : decode cX1_servicesOf 37 = .ok (.iload 4, 2) := by decide +kernel
theorem dX1_servicesOf_39 : decode cX1_servicesOf 39 = .ok (.ifCond .eq 20, 3) := by decide +kernel
theorem dX1_servicesOf_42 : decode cX1_servicesOf 42 = .ok (.aload_n 0, 1) := by decide +kernel
theorem dX1_servicesOf_43 : decode cX1_servicesOf 43 = .ok (.getfield 23, 3) := by decide +kernel
theorem dX1_servicesOf_46 : decode cX1_servicesOf 46 = .ok (.iload_n 3, 1) := by decide +kernel
theorem dX1_servicesOf_47 : decode cX1_servicesOf 47 = .ok (.iconst 0, 1) := by decide +kernel
theorem dX1_servicesOf_48 : decode cX1_servicesOf 48 = .ok (.invokevirtual 104, 3) := by decide +kernel
theorem dX1_servicesOf_51 : decode cX1_servicesOf 51 = .ok (.iload_n 1, 1) := by decide +kernel
theorem dX1_servicesOf_52 : decode cX1_servicesOf 52 = .ok (.if_icmp .ne 7, 3) := by decide +kernel
theorem dX1_servicesOf_55 : decode cX1_servicesOf 55 = .ok (.iconst 1, 1) := by decide +kernel
theorem dX1_servicesOf_56 : decode cX1_servicesOf 56 = .ok (.goto 4, 3) := by decide +kernel
theorem dX1_servicesOf_59 : decode cX1_servicesOf 59 = .ok (.iconst 0, 1) := by decide +kernel
theorem dX1_servicesOf_60 : decode cX1_servicesOf 60 = .ok (.iadd, 1) := by decide +kernel
theorem dX1_servicesOf_61 : decode cX1_servicesOf 61 = .ok (.istore_n 2, 1) := by decide +kernel
theorem dX1_servicesOf_62 : decode cX1_servicesOf 62 = .ok (.iinc 3 1, 3) := by decide +kernel
theorem dX1_servicesOf_65 : decode cX1_servicesOf 65 = .ok (.goto (-61), 3) := by decide +kernel
theorem dX1_servicesOf_68 : decode cX1_servicesOf 68 = .ok (.iload_n 2, 1) := by decide +kernel
theorem dX1_servicesOf_69 : decode cX1_servicesOf 69 = .ok (.ireturn, 1) := by decide +kernel
theorem dX1_browsersOf_0 : decode cX1_browsersOf 0 = .ok (.iconst 0, 1) := by decide +kernel
theorem dX1_browsersOf_1 : decode cX1_browsersOf 1 = .ok (.istore_n 2, 1) := by decide +kernel
theorem dX1_browsersOf_2 : decode cX1_browsersOf 2 = .ok (.iconst 0, 1) := by decide +kernel
theorem dX1_browsersOf_3 : decode cX1_browsersOf 3 = .ok (.istore_n 3, 1) := by decide +kernel
theorem dX1_browsersOf_4 : decode cX1_browsersOf 4 = .ok (.iload_n 3, 1) := by decide +kernel
theorem dX1_browsersOf_5 : decode cX1_browsersOf 5 = .ok (.aload_n 0, 1) := by decide +kernel
theorem dX1_browsersOf_6 : decode cX1_browsersOf 6 = .ok (.getfield 20, 3) := by decide +kernel
theorem dX1_browsersOf_9 : decode cX1_browsersOf 9 = .ok (.invokevirtual 111, 3) := by decide +kernel
theorem dX1_browsersOf_12 : decode cX1_browsersOf 12 = .ok (.if_icmp .ge 26, 3) := by decide +kernel
theorem dX1_browsersOf_15 : decode cX1_browsersOf 15 = .ok (.iload_n 2, 1) := by decide +kernel
theorem dX1_browsersOf_16 : decode cX1_browsersOf 16 = .ok (.aload_n 0, 1) := by decide +kernel
theorem dX1_browsersOf_17 : decode cX1_browsersOf 17 = .ok (.iload_n 1, 1) := by decide +kernel
theorem dX1_browsersOf_18 : decode cX1_browsersOf 18 = .ok (.iload_n 3, 1) := by decide +kernel
theorem dX1_browsersOf_19 : decode cX1_browsersOf 19 = .ok (.invokevirtual 118, 3) := by decide +kernel
theorem dX1_browsersOf_22 : decode cX1_browsersOf 22 = .ok (.ifCond .eq 7, 3) := by decide +kernel
theorem dX1_browsersOf_25 : decode cX1_browsersOf 25 = .ok (.iconst 1, 1) := by decide +kernel
theorem dX1_browsersOf_26 : decode cX1_browsersOf 26 = .ok (.goto 4, 3) := by decide +kernel
theorem dX1_browsersOf_29 : decode cX1_browsersOf 29 = .ok (.iconst 0, 1) := by decide +kernel
theorem dX1_browsersOf_30 : decode cX1_browsersOf 30 = .ok (.iadd, 1) := by decide +kernel
theorem dX1_browsersOf_31 : decode cX1_browsersOf 31 = .ok (.istore_n 2, 1) := by decide +kernel
theorem dX1_browsersOf_32 : decode cX1_browsersOf 32 = .ok (.iinc 3 1, 3) := by decide +kernel
theorem dX1_browsersOf_35 : decode cX1_browsersOf 35 = .ok (.goto (-31), 3) := by decide +kernel
theorem dX1_browsersOf_38 : decode cX1_browsersOf 38 = .ok (.iload_n 2, 1) := by decide +kernel
theorem dX1_browsersOf_39 : decode cX1_browsersOf 39 = .ok (.ireturn, 1) := by decide +kernel
theorem dX1_browsersOfAll_0 : decode cX1_browsersOfAll 0 = .ok (.iconst 0, 1) := by decide +kernel
theorem dX1_browsersOfAll_1 : decode cX1_browsersOfAll 1 = .ok (.istore_n 1, 1) := by decide +kernel
theorem dX1_browsersOfAll_2 : decode cX1_browsersOfAll 2 = .ok (.iconst 0, 1) := by decide +kernel
theorem dX1_browsersOfAll_3 : decode cX1_browsersOfAll 3 = .ok (.istore_n 2, 1) := by decide +kernel
theorem dX1_browsersOfAll_4 : decode cX1_browsersOfAll 4 = .ok (.iload_n 2, 1) := by decide +kernel
theorem dX1_browsersOfAll_5 : decode cX1_browsersOfAll 5 = .ok (.aload_n 0, 1) := by decide +kernel
theorem dX1_browsersOfAll_6 : decode cX1_browsersOfAll 6 = .ok (.getfield 14, 3) := by decide +kernel
theorem dX1_browsersOfAll_9 : decode cX1_browsersOfAll 9 = .ok (.invokevirtual 111, 3) := by decide +kernel
theorem dX1_browsersOfAll_12 : decode cX1_browsersOfAll 12 = .ok (.if_icmp .ge 17, 3) := by decide +kernel
theorem dX1_browsersOfAll_15 : decode cX1_browsersOfAll 15 = .ok (.iload_n 1, 1) := by decide +kernel
theorem dX1_browsersOfAll_16 : decode cX1_browsersOfAll 16 = .ok (.aload_n 0, 1) := by decide +kernel
theorem dX1_browsersOfAll_17 : decode cX1_browsersOfAll 17 = .ok (.iload_n 2, 1) := by decide +kernel
theorem dX1_browsersOfAll_18 : decode cX1_browsersOfAll 18 = .ok (.invokevirtual 122, 3) := by decide +kernel
theorem dX1_browsersOfAll_21 : decode cX1_browsersOfAll 21 = .ok (.iadd, 1) := by decide +kernel
theorem dX1_browsersOfAll_22 : decode cX1_browsersOfAll 22 = .ok (.istore_n 1, 1) := by decide +kernel
theorem dX1_browsersOfAll_23 : decode cX1_browsersOfAll 23 = .ok (.iinc 2 1, 3) := by decide +kernel
theorem dX1_browsersOfAll_26 : decode cX1_browsersOfAll 26 = .ok (.goto (-22), 3) := by decide +kernel
theorem dX1_browsersOfAll_29 : decode cX1_browsersOfAll 29 = .ok (.iload_n 1, 1) := by decide +kernel
theorem dX1_browsersOfAll_30 : decode cX1_browsersOfAll 30 = .ok (.ireturn, 1) := by decide +kernel
theorem dX1_isTaken_0 : decode cX1_isTaken 0 = .ok (.iconst 0, 1) := by decide +kernel
theorem dX1_isTaken_1 : decode cX1_isTaken 1 = .ok (.istore 4, 2) := by decide +kernel
theorem dX1_isTaken_3 : decode cX1_isTaken 3 = .ok (.iload 4, 2) := by decide +kernel
theorem dX1_isTaken_5 : decode cX1_isTaken 5 = .ok (.aload_n 0, 1) := by decide +kernel
theorem dX1_isTaken_6 : decode cX1_isTaken 6 = .ok (.getfield 23, 3) := by decide +kernel
theorem dX1_isTaken_9 : decode cX1_isTaken 9 = .ok (.invokevirtual 111, 3) := by decide +kernel
theorem dX1_isTaken_12 : decode cX1_isTaken 12 = .ok (.if_icmp .ge 93, 3) := by decide +kernel
theorem dX1_isTaken_15 : decode cX1_isTaken 15 = .ok (.aload_n 0, 1) := by decide +kernel
theorem dX1_isTaken_16 : decode cX1_isTaken 16 = .ok (.getfield 23, 3) := by decide +kernel
theorem dX1_isTaken_19 : decode cX1_isTaken 19 = .ok (.iload 4, 2) := by decide +kernel
theorem dX1_isTaken_21 : decode cX1_isTaken 21 = .ok (.iconst 5, 1) := by decide +kernel
theorem dX1_isTaken_22 : decode cX1_isTaken 22 = .ok (.invokevirtual 104, 3) := by decide +kernel
theorem dX1_isTaken_25 : decode cX1_isTaken 25 = .ok (.iload_n 3, 1) := by decide +kernel
theorem dX1_isTaken_26 : decode cX1_isTaken 26 = .ok (.if_icmp .ne 34, 3) := by decide +kernel
theorem dX1_isTaken_29 : decode cX1_isTaken 29 = .ok (.aload_n 0, 1) := by decide +kernel
theorem dX1_isTaken_30 : decode cX1_isTaken 30 = .ok (.getfield 23, 3) := by decide +kernel
theorem dX1_isTaken_33 : decode cX1_isTaken 33 = .ok (.iload 4, 2) := by decide +kernel
theorem dX1_isTaken_35 : decode cX1_isTaken 35 = .ok (.iconst 2, 1) := by decide +kernel
theorem dX1_isTaken_36 : decode cX1_isTaken 36 = .ok (.invokevirtual 104, 3) := by decide +kernel
theorem dX1_isTaken_39 : decode cX1_isTaken 39 = .ok (.ifCond .ne 21, 3) := by decide +kernel
theorem dX1_isTaken_42 : decode cX1_isTaken 42 = .ok (.aload_n 0, 1) := by decide +kernel
theorem dX1_isTaken_43 : decode cX1_isTaken 43 = .ok (.getfield 23, 3) := by decide +kernel
theorem dX1_isTaken_46 : decode cX1_isTaken 46 = .ok (.iload 4, 2) := by decide +kernel
theorem dX1_isTaken_48 : decode cX1_isTaken 48 = .ok (.iconst 1, 1) := by decide +kernel
theorem dX1_isTaken_49 : decode cX1_isTaken 49 = .ok (.invokevirtual 104, 3) := by decide +kernel
theorem dX1_isTaken_52 : decode cX1_isTaken 52 = .ok (.iload_n 2, 1) := by decide +kernel
theorem dX1_isTaken_53 : decode cX1_isTaken 53 = .ok (.if_icmp .ne 7, 3) := by decide +kernel
theorem dX1_isTaken_56 : decode cX1_isTaken 56 = .ok (.iconst 1, 1) := by decide +kernel
theorem dX1_isTaken_57 : decode cX1_isTaken 57 = .ok (.goto 4, 3) := by decide +kernel
theorem dX1_isTaken_61 : decode cX1_isTaken 61 = .ok (.istore 5, 2) := by decide +kernel
theorem dX1_isTaken_63 : decode cX1_isTaken 63 = .ok (.iload 5, 2) := by decide +kernel
theorem dX1_isTaken_65 : decode cX1_isTaken 65 = .ok (.ifCond .eq 34, 3) := by decide +kernel
theorem dX1_isTaken_68 : decode cX1_isTaken 68 = .ok (.aload_n 0, 1) := by decide +kernel
theorem dX1_isTaken_69 : decode cX1_isTaken 69 = .ok (.getfield 23, 3) := by decide +kernel
theorem dX1_isTaken_72 : decode cX1_isTaken 72 = .ok (.iload 4, 2) := by decide +kernel
theorem dX1_isTaken_74 : decode cX1_isTaken 74 = .ok (.iconst 0, 1) := by decide +kernel
theorem dX1_isTaken_75 : decode cX1_isTaken 75 = .ok (.invokevirtual 104, 3) := by decide +kernel
theorem dX1_isTaken_78 : decode cX1_isTaken 78 = .ok (.iload_n 1, 1) := by decide +kernel
theorem dX1_isTaken_79 : decode cX1_isTaken 79 = .ok (.if_icmp .ne 20, 3) := by decide +kernel
theorem dX1_isTaken_82 : decode cX1_isTaken 82 = .ok (.aload_n 0, 1) := by decide +kernel
theorem dX1_isTaken_83 : decode cX1_isTaken 83 = .ok (.getfield 23, 3) := by decide +kernel
theorem dX1_isTaken_86 : decode cX1_isTaken 86 = .ok (.iload 4, 2) := by decide +kernel
theorem dX1_isTaken_88 : decode cX1_isTaken 88 = .ok (.bipush 6, 2) := by decide +kernel
theorem dX1_isTaken_90 : decode cX1_isTaken 90 = .ok (.invokevirtual 104, 3) := by decide +kernel
theorem dX1_isTaken_93 : decode cX1_isTaken 93 = .ok (.iconst 3, 1) := by decide +kernel
theorem dX1_isTaken_94 : decode cX1_isTaken 94 = .ok (.if_icmp .eq 5, 3) := by decide +kernel
theorem dX1_isTaken_97 : decode cX1_isTaken 97 = .ok (.iconst 1, 1) := by decide +kernel
theorem dX1_isTaken_98 : decode cX1_isTaken 98 = .ok (.ireturn, 1) := by decide +kernel
theorem dX1_isTaken_99 : decode cX1_isTaken 99 = .ok (.iinc 4 1, 3) := by decide +kernel
theorem dX1_isTaken_102 : decode cX1_isTaken 102 = .ok (.goto (-99), 3) := by decide +kernel
theorem dX1_isTaken_105 : decode cX1_isTaken 105 = .ok (.iconst 0, 1) := by decide +kernel
theorem dX1_isTaken_106 : decode cX1_isTaken 106 = .ok (.ireturn, 1) := by decide +kernel
theorem dX1_eventsKept_0 : decode cX1_eventsKept 0 = .ok (.bipush 20, 2) := by decide +kernel
theorem dX1_eventsKept_2 : decode cX1_eventsKept 2 = .ok (.aload_n 0, 1) := by decide +kernel
theorem dX1_eventsKept_3 : decode cX1_eventsKept 3 = .ok (.getfield 91, 3) := by decide +kernel
theorem dX1_eventsKept_6 : decode cX1_eventsKept 6 = .ok (.invokestatic 126, 3) := by decide +kernel
theorem dX1_eventsKept_9 : decode cX1_eventsKept 9 = .ok (.ireturn, 1) := by decide +kernel
theorem dX1_messagesUnderWay_0 : decode cX1_messagesUnderWay 0 = .ok (.aload_n 0, 1) := by decide +kernel
theorem dX1_messagesUnderWay_1 : decode cX1_messagesUnderWay 1 = .ok (.getfield 48, 3) := by decide +kernel
theorem dX1_messagesUnderWay_4 : decode cX1_messagesUnderWay 4 = .ok (.invokevirtual 131, 3) := by decide +kernel
theorem dX1_messagesUnderWay_7 : decode cX1_messagesUnderWay 7 = .ok (.i2l, 1) := by decide +kernel
theorem dX1_messagesUnderWay_8 : decode cX1_messagesUnderWay 8 = .ok (.aload_n 0, 1) := by decide +kernel
theorem dX1_messagesUnderWay_9 : decode cX1_messagesUnderWay 9 = .ok (.getfield 52, 3) := by decide +kernel
theorem dX1_messagesUnderWay_12 : decode cX1_messagesUnderWay 12 = .ok (.invokevirtual 131, 3) := by decide +kernel
theorem dX1_messagesUnderWay_15 : decode cX1_messagesUnderWay 15 = .ok (.i2l, 1) := by decide +kernel
theorem dX1_messagesUnderWay_16 : decode cX1_messagesUnderWay 16 = .ok (.ladd, 1) := by decide +kernel
theorem dX1_messagesUnderWay_17 : decode cX1_messagesUnderWay 17 = .ok (.invokestatic 134, 3) := by decide +kernel
theorem dX1_messagesUnderWay_20 : decode cX1_messagesUnderWay 20 = .ok (.ireturn, 1) := by decide +kernel
theorem dX1_portKnown_0 : decode cX1_portKnown 0 = .ok (.aload_n 0, 1) := by decide +kernel
theorem dX1_portKnown_1 : decode cX1_portKnown 1 = .ok (.iload_n 1, 1) := by decide +kernel
theorem dX1_portKnown_2 : decode cX1_portKnown 2 = .ok (.invokevirtual 70, 3) := by decide +kernel
theorem dX1_portKnown_5 : decode cX1_portKnown 5 = .ok (.astore_n 3, 1) := by decide +kernel
theorem dX1_portKnown_6 : decode cX1_portKnown 6 = .ok (.aload_n 3, 1) := by decide +kernel
theorem dX1_portKnown_7 : decode cX1_portKnown 7 = .ok (.aload_n 0, 1) := by decide +kernel
theorem dX1_portKnown_8 : decode cX1_portKnown 8 = .ok (.getfield 23, 3) := by decide +kernel
theorem dX1_portKnown_11 : decode cX1_portKnown 11 = .ok (.iload_n 2, 1) := by decide +kernel
theorem dX1_portKnown_12 : decode cX1_portKnown 12 = .ok (.invokevirtual 138, 3) := by decide +kernel
theorem dX1_portKnown_15 : decode cX1_portKnown 15 = .ok (.istore 4, 2) := by decide +kernel
theorem dX1_portKnown_17 : decode cX1_portKnown 17 = .ok (.iload 4, 2) := by decide +kernel
theorem dX1_portKnown_19 : decode cX1_portKnown 19 = .ok (.iconst (-1), 1) := by decide +kernel
theorem dX1_portKnown_20 : decode cX1_portKnown 20 = .ok (.if_icmp .eq 26, 3) := by decide +kernel
theorem dX1_portKnown_23 : decode cX1_portKnown 23 = .ok (.aload_n 3, 1) := by decide +kernel
theorem dX1_portKnown_24 : decode cX1_portKnown 24 = .ok (.iload 4, 2) := by decide +kernel
theorem dX1_portKnown_26 : decode cX1_portKnown 26 = .ok (.iconst 0, 1) := by decide +kernel
theorem dX1_portKnown_27 : decode cX1_portKnown 27 = .ok (.invokevirtual 104, 3) := by decide +kernel
theorem dX1_portKnown_30 : decode cX1_portKnown 30 = .ok (.aload_n 0, 1) := by decide +kernel
theorem dX1_portKnown_31 : decode cX1_portKnown 31 = .ok (.getfield 23, 3) := by decide +kernel
theorem dX1_portKnown_34 : decode cX1_portKnown 34 = .ok (.iload_n 2, 1) := by decide +kernel
theorem dX1_portKnown_35 : decode cX1_portKnown 35 = .ok (.iconst 0, 1) := by decide +kernel
theorem dX1_portKnown_36 : decode cX1_portKnown 36 = .ok (.invokevirtual 104, 3) := by decide +kernel
theorem dX1_portKnown_39 : decode cX1_portKnown 39 = .ok (.if_icmp .ne 7, 3) := by decide +kernel
theorem dX1_portKnown_42 : decode cX1_portKnown 42 = .ok (.iconst 1, 1) := by decide +kernel
theorem dX1_portKnown_43 : decode cX1_portKnown 43 = .ok (.goto 4, 3) := by decide +kernel
theorem dX1_portKnown_46 : decode cX1_portKnown 46 = .ok (.iconst 0, 1) := by decide +kernel
theorem dX1_portKnown_47 : decode cX1_portKnown 47 = .ok (.istore 5, 2) := by decide +kernel
theorem dX1_portKnown_49 : decode cX1_portKnown 49 = .ok (.iload 5, 2) := by decide +kernel
theorem dX1_portKnown_51 : decode cX1_portKnown 51 = .ok (.ifCond .eq 13, 3) := by decide +kernel
theorem dX1_portKnown_54 : decode cX1_portKnown 54 = .ok (.aload_n 3, 1) := by decide +kernel
theorem dX1_portKnown_55 : decode cX1_portKnown 55 = .ok (.iload 4, 2) := by decide +kernel
theorem dX1_portKnown_57 : decode cX1_portKnown 57 = .ok (.iconst 3, 1) := by decide +kernel
theorem dX1_portKnown_58 : decode cX1_portKnown 58 = .ok (.invokevirtual 104, 3) := by decide +kernel
theorem dX1_portKnown_61 : decode cX1_portKnown 61 = .ok (.goto 4, 3) := by decide +kernel
theorem dX1_portKnown_64 : decode cX1_portKnown 64 = .ok (.iconst (-1), 1) := by decide +kernel
theorem dX1_portKnown_65 : decode cX1_portKnown 65 = .ok (.ireturn, 1) := by decide +kernel
theorem dX1_recordsOf_0 : decode cX1_recordsOf 0 = .ok (.aload_n 0, 1) := by decide +kernel
theorem dX1_recordsOf_1 : decode cX1_recordsOf 1 = .ok (.iload_n 1, 1) := by decide +kernel
theorem dX1_recordsOf_2 : decode cX1_recordsOf 2 = .ok (.invokevirtual 70, 3) := by decide +kernel
theorem dX1_recordsOf_5 : decode cX1_recordsOf 5 = .ok (.astore_n 3, 1) := by decide +kernel
theorem dX1_recordsOf_6 : decode cX1_recordsOf 6 = .ok (.iconst 0, 1) := by decide +kernel
theorem dX1_recordsOf_7 : decode cX1_recordsOf 7 = .ok (.istore 4, 2) := by decide +kernel
theorem dX1_recordsOf_9 : decode cX1_recordsOf 9 = .ok (.iconst 0, 1) := by decide +kernel
theorem dX1_recordsOf_10 : decode cX1_recordsOf 10 = .ok (.istore 5, 2) := by decide +kernel
theorem dX1_recordsOf_12 : decode cX1_recordsOf 12 = .ok (.iload 5, 2) := by decide +kernel
theorem dX1_recordsOf_14 : decode cX1_recordsOf 14 = .ok (.aload_n 3, 1) := by decide +kernel
theorem dX1_recordsOf_15 : decode cX1_recordsOf 15 = .ok (.invokevirtual 111, 3) := by decide +kernel
theorem dX1_recordsOf_18 : decode cX1_recordsOf 18 = .ok (.if_icmp .ge 30, 3) := by decide +kernel
theorem dX1_recordsOf_21 : decode cX1_recordsOf 21 = .ok (.iload 4, 2) := by decide +kernel
theorem dX1_recordsOf_23 : decode cX1_recordsOf 23 = .ok (.aload_n 3, 1) := by decide +kernel
theorem dX1_recordsOf_24 : decode cX1_recordsOf 24 = .ok (.iload 5, 2) := by decide +kernel
theorem dX1_recordsOf_26 : decode cX1_recordsOf 26 = .ok (.iconst 1, 1) := by decide +kernel
theorem dX1_recordsOf_27 : decode cX1_recordsOf 27 = .ok (.invokevirtual 104, 3) := by decide +kernel
theorem dX1_recordsOf_30 : decode cX1_recordsOf 30 = .ok (.iload_n 2, 1) := by decide +kernel
theorem dX1_recordsOf_31 : decode cX1_recordsOf 31 = .ok (.if_icmp .ne 7, 3) := by decide +kernel
theorem dX1_recordsOf_34 : decode cX1_recordsOf 34 = .ok (.iconst 1, 1) := by decide +kernel
theorem dX1_recordsOf_35 : decode cX1_recordsOf 35 = .ok (.goto 4, 3) := by decide +kernel
theorem dX1_recordsOf_48 : decode cX1_recordsOf 48 = .ok (.iload 4, 2) := by decide +kernel
theorem dX1_recordsOf_50 : decode cX1_recordsOf 50 = .ok (.ireturn, 1) := by decide +kernel
theorem dX1_staleRecords_0 : decode cX1_staleRecords 0 = .ok (.iconst 0, 1) := by decide +kernel
theorem dX1_staleRecords_1 : decode cX1_staleRecords 1 = .ok (.istore_n 1, 1) := by decide +kernel
theorem dX1_staleRecords_2 : decode cX1_staleRecords 2 = .ok (.iconst 0, 1) := by decide +kernel
theorem dX1_staleRecords_3 : decode cX1_staleRecords 3 = .ok (.istore_n 2, 1) := by decide +kernel
theorem dX1_staleRecords_4 : decode cX1_staleRecords 4 = .ok (.iload_n 2, 1) := by decide +kernel
theorem dX1_staleRecords_5 : decode cX1_staleRecords 5 = .ok (.aload_n 0, 1) := by decide +kernel
theorem dX1_staleRecords_6 : decode cX1_staleRecords 6 = .ok (.getfield 14, 3) := by decide +kernel
theorem dX1_staleRecords_9 : decode cX1_staleRecords 9 = .ok (.invokevirtual 111, 3) := by decide +kernel
theorem dX1_staleRecords_12 : decode cX1_staleRecords 12 = .ok (.if_icmp .ge 51, 3) := by decide +kernel
theorem dX1_staleRecords_15 : decode cX1_staleRecords 15 = .ok (.aload_n 0, 1) := by decide +kernel
theorem dX1_staleRecords_16 : decode cX1_staleRecords 16 = .ok (.iload_n 2, 1) := by decide +kernel
theorem dX1_staleRecords_17 : decode cX1_staleRecords 17 = .ok (.invokevirtual 70, 3) := by decide +kernel
theorem dX1_staleRecords_20 : decode cX1_staleRecords 20 = .ok (.astore_n 3, 1) := by decide +kernel
theorem dX1_staleRecords_21 : decode cX1_staleRecords 21 = .ok (.iconst 0, 1) := by decide +kernel
theorem dX1_staleRecords_22 : decode cX1_staleRecords 22 = .ok (.istore 4, 2) := by decide +kernel
theorem dX1_staleRecords_24 : decode cX1_staleRecords 24 = .ok (.iload 4, 2) := by decide +kernel
theorem dX1_staleRecords_26 : decode cX1_staleRecords 26 = .ok (.aload_n 3, 1) := by decide +kernel
theorem dX1_staleRecords_27 : decode cX1_staleRecords 27 = .ok (.invokevirtual 111, 3) := by decide +kernel
theorem dX1_staleRecords_30 : decode cX1_staleRecords 30 = .ok (.if_icmp .ge 27, 3) := by decide +kernel
theorem dX1_staleRecords_33 : decode cX1_staleRecords 33 = .ok (.iload_n 1, 1) := by decide +kernel
theorem dX1_staleRecords_34 : decode cX1_staleRecords 34 = .ok (.aload_n 0, 1) := by decide +kernel
theorem dX1_staleRecords_35 : decode cX1_staleRecords 35 = .ok (.aload_n 3, 1) := by decide +kernel
theorem dX1_staleRecords_36 : decode cX1_staleRecords 36 = .ok (.iload 4, 2) := by decide +kernel
theorem dX1_staleRecords_38 : decode cX1_staleRecords 38 = .ok (.invokevirtual 142, 3) := by decide +kernel
theorem dX1_staleRecords_41 : decode cX1_staleRecords 41 = .ok (.ifCond .eq 7, 3) := by decide +kernel
theorem dX1_staleRecords_44 : decode cX1_staleRecords 44 = .ok (.iconst 1, 1) := by decide +kernel
theorem dX1_staleRecords_45 : decode cX1_staleRecords 45 = .ok (.goto 4, 3) := by decide +kernel
theorem dX1_staleRecords_57 : decode cX1_staleRecords 57 = .ok (.iinc 2 1, 3) := by decide +kernel
theorem dX1_staleRecords_60 : decode cX1_staleRecords 60 = .ok (.goto (-56), 3) := by decide +kernel
theorem dX1_staleRecords_63 : decode cX1_staleRecords 63 = .ok (.iload_n 1, 1) := by decide +kernel
theorem dX1_staleRecords_64 : decode cX1_staleRecords 64 = .ok (.ireturn, 1) := by decide +kernel
theorem dX1_clashingPairs_0 : decode cX1_clashingPairs 0 = .ok (.iconst 0, 1) := by decide +kernel
theorem dX1_clashingPairs_1 : decode cX1_clashingPairs 1 = .ok (.istore_n 1, 1) := by decide +kernel
theorem dX1_clashingPairs_2 : decode cX1_clashingPairs 2 = .ok (.iconst 0, 1) := by decide +kernel
theorem dX1_clashingPairs_3 : decode cX1_clashingPairs 3 = .ok (.istore_n 2, 1) := by decide +kernel
theorem dX1_clashingPairs_4 : decode cX1_clashingPairs 4 = .ok (.iload_n 2, 1) := by decide +kernel
theorem dX1_clashingPairs_5 : decode cX1_clashingPairs 5 = .ok (.aload_n 0, 1) := by decide +kernel
theorem dX1_clashingPairs_6 : decode cX1_clashingPairs 6 = .ok (.getfield 23, 3) := by decide +kernel
theorem dX1_clashingPairs_9 : decode cX1_clashingPairs 9 = .ok (.invokevirtual 111, 3) := by decide +kernel
theorem dX1_clashingPairs_12 : decode cX1_clashingPairs 12 = .ok (.if_icmp .ge 47, 3) := by decide +kernel
theorem dX1_clashingPairs_15 : decode cX1_clashingPairs 15 = .ok (.iload_n 2, 1) := by decide +kernel
theorem dX1_clashingPairs_16 : decode cX1_clashingPairs 16 = .ok (.iconst 1, 1) := by decide +kernel
theorem dX1_clashingPairs_17 : decode cX1_clashingPairs 17 = .ok (.iadd, 1) := by decide +kernel
theorem dX1_clashingPairs_18 : decode cX1_clashingPairs 18 = .ok (.istore_n 3, 1) := by decide +kernel
theorem dX1_clashingPairs_19 : decode cX1_clashingPairs 19 = .ok (.iload_n 3, 1) := by decide +kernel
theorem dX1_clashingPairs_20 : decode cX1_clashingPairs 20 = .ok (.aload_n 0, 1) := by decide +kernel
theorem dX1_clashingPairs_21 : decode cX1_clashingPairs 21 = .ok (.getfield 23, 3) := by decide +kernel
theorem dX1_clashingPairs_24 : decode cX1_clashingPairs 24 = .ok (.invokevirtual 111, 3) := by decide +kernel
theorem dX1_clashingPairs_27 : decode cX1_clashingPairs 27 = .ok (.if_icmp .ge 26, 3) := by decide +kernel
theorem dX1_clashingPairs_30 : decode cX1_clashingPairs 30 = .ok (.iload_n 1, 1) := by decide +kernel
theorem dX1_clashingPairs_31 : decode cX1_clashingPairs 31 = .ok (.aload_n 0, 1) := by decide +kernel
theorem dX1_clashingPairs_32 : decode cX1_clashingPairs 32 = .ok (.iload_n 2, 1) := by decide +kernel
theorem dX1_clashingPairs_33 : decode cX1_clashingPairs 33 = .ok (.iload_n 3, 1) := by decide +kernel
theorem dX1_clashingPairs_34 : decode cX1_clashingPairs 34 = .ok (.invokevirtual 157, 3) := by decide +kernel
theorem dX1_clashingPairs_37 : decode cX1_clashingPairs 37 = .ok (.ifCond .eq 7, 3) := by decide +kernel
theorem dX1_clashingPairs_40 : decode cX1_clashingPairs 40 = .ok (.iconst 1, 1) := by decide +kernel
theorem dX1_clashingPairs_41 : decode cX1_clashingPairs 41 = .ok (.goto 4, 3) := by decide +kernel
theorem dX1_clashingPairs_44 : decode cX1_clashingPairs 44 = .ok (.iconst 0, 1) := by decide +kernel
theorem dX1_clashingPairs_45 : decode cX1_clashingPairs 45 = .ok (.iadd, 1) := by decide +kernel
theorem dX1_clashingPairs_46 : decode cX1_clashingPairs 46 = .ok (.istore_n 1, 1) := by decide +kernel
theorem dX1_clashingPairs_47 : decode cX1_clashingPairs 47 = .ok (.iinc 3 1, 3) := by decide +kernel
theorem dX1_clashingPairs_50 : decode cX1_clashingPairs 50 = .ok (.goto (-31), 3) := by decide +kernel
theorem dX1_clashingPairs_53 : decode cX1_clashingPairs 53 = .ok (.iinc 2 1, 3) := by decide +kernel
theorem dX1_clashingPairs_56 : decode cX1_clashingPairs 56 = .ok (.goto (-52), 3) := by decide +kernel
theorem dX1_clashingPairs_59 : decode cX1_clashingPairs 59 = .ok (.iload_n 1, 1) := by decide +kernel
theorem dX1_clashingPairs_60 : decode cX1_clashingPairs 60 = .ok (.ireturn, 1) := by decide +kernel
theorem dX1_isClash_0 : decode cX1_isClash 0 = .ok (.aload_n 0, 1) := by decide +kernel
theorem dX1_isClash_1 : decode cX1_isClash 1 = .ok (.getfield 23, 3) := by decide +kernel
theorem dX1_isClash_4 : decode cX1_isClash 4 = .ok (.iload_n 1, 1) := by decide +kernel
theorem dX1_isClash_5 : decode cX1_isClash 5 = .ok (.iconst 0, 1) := by decide +kernel
theorem dX1_isClash_6 : decode cX1_isClash 6 = .ok (.invokevirtual 104, 3) := by decide +kernel
theorem dX1_isClash_9 : decode cX1_isClash 9 = .ok (.istore_n 3, 1) := by decide +kernel
theorem dX1_isClash_10 : decode cX1_isClash 10 = .ok (.aload_n 0, 1) := by decide +kernel
theorem dX1_isClash_11 : decode cX1_isClash 11 = .ok (.getfield 23, 3) := by decide +kernel
theorem dX1_isClash_14 : decode cX1_isClash 14 = .ok (.iload_n 2, 1) := by decide +kernel
theorem dX1_isClash_15 : decode cX1_isClash 15 = .ok (.iconst 0, 1) := by decide +kernel
theorem dX1_isClash_16 : decode cX1_isClash 16 = .ok (.invokevirtual 104, 3) := by decide +kernel
theorem dX1_isClash_19 : decode cX1_isClash 19 = .ok (.istore 4, 2) := by decide +kernel
theorem dX1_isClash_21 : decode cX1_isClash 21 = .ok (.aload_n 0, 1) := by decide +kernel
theorem dX1_isClash_22 : decode cX1_isClash 22 = .ok (.getfield 23, 3) := by decide +kernel
theorem dX1_isClash_25 : decode cX1_isClash 25 = .ok (.iload_n 1, 1) := by decide +kernel
theorem dX1_isClash_26 : decode cX1_isClash 26 = .ok (.aload_n 0, 1) := by decide +kernel
theorem dX1_isClash_27 : decode cX1_isClash 27 = .ok (.getfield 23, 3) := by decide +kernel
theorem dX1_isClash_30 : decode cX1_isClash 30 = .ok (.iload_n 2, 1) := by decide +kernel
theorem dX1_isClash_31 : decode cX1_isClash 31 = .ok (.invokevirtual 146, 3) := by decide +kernel
theorem dX1_isClash_34 : decode cX1_isClash 34 = .ok (.ifCond .eq 50, 3) := by decide +kernel
theorem dX1_isClash_37 : decode cX1_isClash 37 = .ok (.aload_n 0, 1) := by decide +kernel
theorem dX1_isClash_38 : decode cX1_isClash 38 = .ok (.iload_n 1, 1) := by decide +kernel
theorem dX1_isClash_39 : decode cX1_isClash 39 = .ok (.invokevirtual 154, 3) := by decide +kernel
theorem dX1_isClash_42 : decode cX1_isClash 42 = .ok (.ifCond .eq 42, 3) := by decide +kernel
theorem dX1_isClash_45 : decode cX1_isClash 45 = .ok (.aload_n 0, 1) := by decide +kernel
theorem dX1_isClash_46 : decode cX1_isClash 46 = .ok (.iload_n 2, 1) := by decide +kernel
theorem dX1_isClash_47 : decode cX1_isClash 47 = .ok (.invokevirtual 154, 3) := by decide +kernel
theorem dX1_isClash_50 : decode cX1_isClash 50 = .ok (.ifCond .eq 34, 3) := by decide +kernel
theorem dX1_isClash_53 : decode cX1_isClash 53 = .ok (.aload_n 0, 1) := by decide +kernel
theorem dX1_isClash_54 : decode cX1_isClash 54 = .ok (.iload_n 3, 1) := by decide +kernel
theorem dX1_isClash_55 : decode cX1_isClash 55 = .ok (.invokevirtual 114, 3) := by decide +kernel
theorem dX1_isClash_58 : decode cX1_isClash 58 = .ok (.ifCond .eq 26, 3) := by decide +kernel
theorem dX1_isClash_61 : decode cX1_isClash 61 = .ok (.aload_n 0, 1) := by decide +kernel
theorem dX1_isClash_62 : decode cX1_isClash 62 = .ok (.iload 4, 2) := by decide +kernel
theorem dX1_isClash_64 : decode cX1_isClash 64 = .ok (.invokevirtual 114, 3) := by decide +kernel
theorem dX1_isClash_67 : decode cX1_isClash 67 = .ok (.ifCond .eq 17, 3) := by decide +kernel
theorem dX1_isClash_70 : decode cX1_isClash 70 = .ok (.aload_n 0, 1) := by decide +kernel
theorem dX1_isClash_71 : decode cX1_isClash 71 = .ok (.iload_n 3, 1) := by decide +kernel
theorem dX1_isClash_72 : decode cX1_isClash 72 = .ok (.iload 4, 2) := by decide +kernel
theorem dX1_isClash_74 : decode cX1_isClash 74 = .ok (.invokevirtual 160, 3) := by decide +kernel
theorem dX1_isClash_77 : decode cX1_isClash 77 = .ok (.ifCond .eq 7, 3) := by decide +kernel
theorem dX1_isClash_80 : decode cX1_isClash 80 = .ok (.iconst 1, 1) := by decide +kernel
theorem dX1_isClash_81 : decode cX1_isClash 81 = .ok (.goto 4, 3) := by decide +kernel
theorem dX1_isClash_84 : decode cX1_isClash 84 = .ok (.iconst 0, 1) := by decide +kernel
theorem dX1_isClash_85 : decode cX1_isClash 85 = .ok (.ireturn, 1) := by decide +kernel
theorem dX1_pairsToKnow_0 : decode cX1_pairsToKnow 0 = .ok (.iconst 0, 1) := by decide +kernel
theorem dX1_pairsToKnow_1 : decode cX1_pairsToKnow 1 = .ok (.istore_n 2, 1) := by decide +kernel
theorem dX1_pairsToKnow_2 : decode cX1_pairsToKnow 2 = .ok (.iconst 0, 1) := by decide +kernel
theorem dX1_pairsToKnow_3 : decode cX1_pairsToKnow 3 = .ok (.istore_n 3, 1) := by decide +kernel
theorem dX1_pairsToKnow_4 : decode cX1_pairsToKnow 4 = .ok (.iload_n 3, 1) := by decide +kernel
theorem dX1_pairsToKnow_5 : decode cX1_pairsToKnow 5 = .ok (.aload_n 0, 1) := by decide +kernel
theorem dX1_pairsToKnow_6 : decode cX1_pairsToKnow 6 = .ok (.getfield 14, 3) := by decide +kernel
theorem dX1_pairsToKnow_9 : decode cX1_pairsToKnow 9 = .ok (.invokevirtual 111, 3) := by decide +kernel
theorem dX1_pairsToKnow_12 : decode cX1_pairsToKnow 12 = .ok (.if_icmp .ge 84, 3) := by decide +kernel
theorem dX1_pairsToKnow_15 : decode cX1_pairsToKnow 15 = .ok (.iconst 0, 1) := by decide +kernel
theorem dX1_pairsToKnow_16 : decode cX1_pairsToKnow 16 = .ok (.istore 4, 2) := by decide +kernel
theorem dX1_pairsToKnow_18 : decode cX1_pairsToKnow 18 = .ok (.iload 4, 2) := by decide +kernel
theorem dX1_pairsToKnow_20 : decode cX1_pairsToKnow 20 = .ok (.aload_n 0, 1) := by decide +kernel
theorem dX1_pairsToKnow_21 : decode cX1_pairsToKnow 21 = .ok (.getfield 23, 3) := by decide +kernel
theorem dX1_pairsToKnow_24 : decode cX1_pairsToKnow 24 = .ok (.invokevirtual 111, 3) := by decide +kernel
theorem dX1_pairsToKnow_27 : decode cX1_pairsToKnow 27 = .ok (.if_icmp .ge 63, 3) := by decide +kernel
theorem dX1_pairsToKnow_30 : decode cX1_pairsToKnow 30 = .ok (.aload_n 0, 1) := by decide +kernel
theorem dX1_pairsToKnow_31 : decode cX1_pairsToKnow 31 = .ok (.iload_n 3, 1) := by decide +kernel
theorem dX1_pairsToKnow_32 : decode cX1_pairsToKnow 32 = .ok (.iload 4, 2) := by decide +kernel
theorem dX1_pairsToKnow_34 : decode cX1_pairsToKnow 34 = .ok (.invokevirtual 163, 3) := by decide +kernel
theorem dX1_pairsToKnow_37 : decode cX1_pairsToKnow 37 = .ok (.ifCond .eq 31, 3) := by decide +kernel
theorem dX1_pairsToKnow_40 : decode cX1_pairsToKnow 40 = .ok (.iload_n 1, 1) := by decide +kernel
theorem dX1_pairsToKnow_41 : decode cX1_pairsToKnow 41 = .ok (.ifCond .eq 23, 3) := by decide +kernel
theorem dX1_pairsToKnow_44 : decode cX1_pairsToKnow 44 = .ok (.aload_n 0, 1) := by decide +kernel
theorem dX1_pairsToKnow_45 : decode cX1_pairsToKnow 45 = .ok (.iload_n 3, 1) := by decide +kernel
theorem dX1_pairsToKnow_46 : decode cX1_pairsToKnow 46 = .ok (.iload 4, 2) := by decide +kernel
theorem dX1_pairsToKnow_48 : decode cX1_pairsToKnow 48 = .ok (.invokevirtual 166, 3) := by decide +kernel
theorem dX1_pairsToKnow_51 : decode cX1_pairsToKnow 51 = .ok (.aload_n 0, 1) := by decide +kernel
theorem dX1_pairsToKnow_52 : decode cX1_pairsToKnow 52 = .ok (.getfield 23, 3) := by decide +kernel
theorem dX1_pairsToKnow_55 : decode cX1_pairsToKnow 55 = .ok (.iload 4, 2) := by decide +kernel
theorem dX1_pairsToKnow_57 : decode cX1_pairsToKnow 57 = .ok (.iconst 3, 1) := by decide +kernel
theorem dX1_pairsToKnow_58 : decode cX1_pairsToKnow 58 = .ok (.invokevirtual 104, 3) := by decide +kernel
theorem dX1_pairsToKnow_61 : decode cX1_pairsToKnow 61 = .ok (.if_icmp .ne 7, 3) := by decide +kernel
theorem dX1_pairsToKnow_68 : decode cX1_pairsToKnow 68 = .ok (.iconst 0, 1) := by decide +kernel
theorem dX1_pairsToKnow_69 : decode cX1_pairsToKnow 69 = .ok (.istore 5, 2) := by decide +kernel
theorem dX1_pairsToKnow_71 : decode cX1_pairsToKnow 71 = .ok (.iload_n 2, 1) := by decide +kernel
theorem dX1_pairsToKnow_72 : decode cX1_pairsToKnow 72 = .ok (.iload 5, 2) := by decide +kernel
theorem dX1_pairsToKnow_74 : decode cX1_pairsToKnow 74 = .ok (.ifCond .eq 7, 3) := by decide +kernel
theorem dX1_pairsToKnow_77 : decode cX1_pairsToKnow 77 = .ok (.iconst 1, 1) := by decide +kernel
theorem dX1_pairsToKnow_78 : decode cX1_pairsToKnow 78 = .ok (.goto 4, 3) := by decide +kernel
theorem dX1_pairsToKnow_81 : decode cX1_pairsToKnow 81 = .ok (.iconst 0, 1) := by decide +kernel
theorem dX1_pairsToKnow_82 : decode cX1_pairsToKnow 82 = .ok (.iadd, 1) := by decide +kernel
theorem dX1_pairsToKnow_83 : decode cX1_pairsToKnow 83 = .ok (.istore_n 2, 1) := by decide +kernel
theorem dX1_pairsToKnow_84 : decode cX1_pairsToKnow 84 = .ok (.iinc 4 1, 3) := by decide +kernel
theorem dX1_pairsToKnow_87 : decode cX1_pairsToKnow 87 = .ok (.goto (-69), 3) := by decide +kernel
theorem dX1_pairsToKnow_90 : decode cX1_pairsToKnow 90 = .ok (.iinc 3 1, 3) := by decide +kernel
theorem dX1_pairsToKnow_93 : decode cX1_pairsToKnow 93 = .ok (.goto (-89), 3) := by decide +kernel
theorem dX1_pairsToKnow_96 : decode cX1_pairsToKnow 96 = .ok (.iload_n 2, 1) := by decide +kernel
theorem dX1_pairsToKnow_97 : decode cX1_pairsToKnow 97 = .ok (.ireturn, 1) := by decide +kernel
theorem dX1_isPairToKnow_0 : decode cX1_isPairToKnow 0 = .ok (.aload_n 0, 1) := by decide +kernel
theorem dX1_isPairToKnow_1 : decode cX1_isPairToKnow 1 = .ok (.getfield 23, 3) := by decide +kernel
theorem dX1_isPairToKnow_4 : decode cX1_isPairToKnow 4 = .ok (.iload_n 2, 1) := by decide +kernel
theorem dX1_isPairToKnow_5 : decode cX1_isPairToKnow 5 = .ok (.iconst 0, 1) := by decide +kernel
theorem dX1_isPairToKnow_6 : decode cX1_isPairToKnow 6 = .ok (.invokevirtual 104, 3) := by decide +kernel
theorem dX1_isPairToKnow_9 : decode cX1_isPairToKnow 9 = .ok (.istore_n 3, 1) := by decide +kernel
theorem dX1_isPairToKnow_10 : decode cX1_isPairToKnow 10 = .ok (.aload_n 0, 1) := by decide +kernel
theorem dX1_isPairToKnow_11 : decode cX1_isPairToKnow 11 = .ok (.getfield 23, 3) := by decide +kernel
theorem dX1_isPairToKnow_14 : decode cX1_isPairToKnow 14 = .ok (.iload_n 2, 1) := by decide +kernel
theorem dX1_isPairToKnow_15 : decode cX1_isPairToKnow 15 = .ok (.bipush 6, 2) := by decide +kernel
theorem dX1_isPairToKnow_17 : decode cX1_isPairToKnow 17 = .ok (.invokevirtual 104, 3) := by decide +kernel
theorem dX1_isPairToKnow_20 : decode cX1_isPairToKnow 20 = .ok (.iconst 2, 1) := by decide +kernel
theorem dX1_isPairToKnow_21 : decode cX1_isPairToKnow 21 = .ok (.if_icmp .ne 37, 3) := by decide +kernel
theorem dX1_isPairToKnow_24 : decode cX1_isPairToKnow 24 = .ok (.iload_n 3, 1) := by decide +kernel
theorem dX1_isPairToKnow_25 : decode cX1_isPairToKnow 25 = .ok (.iload_n 1, 1) := by decide +kernel
theorem dX1_isPairToKnow_26 : decode cX1_isPairToKnow 26 = .ok (.if_icmp .eq 32, 3) := by decide +kernel
theorem dX1_isPairToKnow_29 : decode cX1_isPairToKnow 29 = .ok (.aload_n 0, 1) := by decide +kernel
theorem dX1_isPairToKnow_30 : decode cX1_isPairToKnow 30 = .ok (.iload_n 1, 1) := by decide +kernel
theorem dX1_isPairToKnow_31 : decode cX1_isPairToKnow 31 = .ok (.invokevirtual 114, 3) := by decide +kernel
theorem dX1_isPairToKnow_34 : decode cX1_isPairToKnow 34 = .ok (.ifCond .eq 24, 3) := by decide +kernel
theorem dX1_isPairToKnow_37 : decode cX1_isPairToKnow 37 = .ok (.aload_n 0, 1) := by decide +kernel
theorem dX1_isPairToKnow_38 : decode cX1_isPairToKnow 38 = .ok (.iload_n 3, 1) := by decide +kernel
theorem dX1_isPairToKnow_39 : decode cX1_isPairToKnow 39 = .ok (.invokevirtual 114, 3) := by decide +kernel
theorem dX1_isPairToKnow_42 : decode cX1_isPairToKnow 42 = .ok (.ifCond .eq 16, 3) := by decide +kernel
theorem dX1_isPairToKnow_45 : decode cX1_isPairToKnow 45 = .ok (.aload_n 0, 1) := by decide +kernel
theorem dX1_isPairToKnow_46 : decode cX1_isPairToKnow 46 = .ok (.iload_n 1, 1) := by decide +kernel
theorem dX1_isPairToKnow_47 : decode cX1_isPairToKnow 47 = .ok (.iload_n 3, 1) := by decide +kernel
theorem dX1_isPairToKnow_48 : decode cX1_isPairToKnow 48 = .ok (.invokevirtual 160, 3) := by decide +kernel
theorem dX1_isPairToKnow_51 : decode cX1_isPairToKnow 51 = .ok (.ifCond .eq 7, 3) := by decide +kernel
theorem dX1_isPairToKnow_54 : decode cX1_isPairToKnow 54 = .ok (.iconst 1, 1) := by decide +kernel
theorem dX1_isPairToKnow_55 : decode cX1_isPairToKnow 55 = .ok (.goto 4, 3) := by decide +kernel
theorem dX1_isPairToKnow_58 : decode cX1_isPairToKnow 58 = .ok (.iconst 0, 1) := by decide +kernel
theorem dX1_isPairToKnow_59 : decode cX1_isPairToKnow 59 = .ok (.ireturn, 1) := by decide +kernel
theorem dX1_reasonOf_0 : decode cX1_reasonOf 0 = .ok (.aload_n 0, 1) := by decide +kernel
theorem dX1_reasonOf_1 : decode cX1_reasonOf 1 = .ok (.getfield 23, 3) := by decide +kernel
theorem dX1_reasonOf_4 : decode cX1_reasonOf 4 = .ok (.iload_n 1, 1) := by decide +kernel
theorem dX1_reasonOf_5 : decode cX1_reasonOf 5 = .ok (.bipush 6, 2) := by decide +kernel
theorem dX1_reasonOf_7 : decode cX1_reasonOf 7 = .ok (.invokevirtual 104, 3) := by decide +kernel
theorem dX1_reasonOf_10 : decode cX1_reasonOf 10 = .ok (.istore_n 2, 1) := by decide +kernel
theorem dX1_reasonOf_11 : decode cX1_reasonOf 11 = .ok (.iload_n 2, 1) := by decide +kernel
theorem dX1_reasonOf_12 : decode cX1_reasonOf 12 = .ok (.iconst 2, 1) := by decide +kernel
theorem dX1_reasonOf_13 : decode cX1_reasonOf 13 = .ok (.if_icmp .ne 5, 3) := by decide +kernel
theorem dX1_reasonOf_16 : decode cX1_reasonOf 16 = .ok (.iconst 0, 1) := by decide +kernel
theorem dX1_reasonOf_17 : decode cX1_reasonOf 17 = .ok (.ireturn, 1) := by decide +kernel
theorem dX1_reasonOf_18 : decode cX1_reasonOf 18 = .ok (.iload_n 2, 1) := by decide +kernel
theorem dX1_reasonOf_19 : decode cX1_reasonOf 19 = .ok (.iconst 3, 1) := by decide +kernel
theorem dX1_reasonOf_20 : decode cX1_reasonOf 20 = .ok (.if_icmp .ne 5, 3) := by decide +kernel
theorem dX1_reasonOf_23 : decode cX1_reasonOf 23 = .ok (.iconst 1, 1) := by decide +kernel
theorem dX1_reasonOf_24 : decode cX1_reasonOf 24 = .ok (.ireturn, 1) := by decide +kernel
theorem dX1_reasonOf_25 : decode cX1_reasonOf 25 = .ok (.aload_n 0, 1) := by decide +kernel
theorem dX1_reasonOf_26 : decode cX1_reasonOf 26 = .ok (.aload_n 0, 1) := by decide +kernel
theorem dX1_reasonOf_27 : decode cX1_reasonOf 27 = .ok (.getfield 23, 3) := by decide +kernel
theorem dX1_reasonOf_30 : decode cX1_reasonOf 30 = .ok (.iload_n 1, 1) := by decide +kernel
theorem dX1_reasonOf_31 : decode cX1_reasonOf 31 = .ok (.iconst 0, 1) := by decide +kernel
theorem dX1_reasonOf_32 : decode cX1_reasonOf 32 = .ok (.invokevirtual 104, 3) := by decide +kernel
theorem dX1_reasonOf_35 : decode cX1_reasonOf 35 = .ok (.invokevirtual 114, 3) := by decide +kernel
theorem dX1_reasonOf_38 : decode cX1_reasonOf 38 = .ok (.ifCond .ne 5, 3) := by decide +kernel
theorem dX1_reasonOf_41 : decode cX1_reasonOf 41 = .ok (.iconst 2, 1) := by decide +kernel
theorem dX1_reasonOf_42 : decode cX1_reasonOf 42 = .ok (.ireturn, 1) := by decide +kernel
theorem dX1_reasonOf_43 : decode cX1_reasonOf 43 = .ok (.iload_n 2, 1) := by decide +kernel
theorem dX1_reasonOf_44 : decode cX1_reasonOf 44 = .ok (.iconst 1, 1) := by decide +kernel
theorem dX1_reasonOf_45 : decode cX1_reasonOf 45 = .ok (.if_icmp .ne 5, 3) := by decide +kernel
theorem dX1_reasonOf_48 : decode cX1_reasonOf 48 = .ok (.iconst 3, 1) := by decide +kernel
theorem dX1_reasonOf_49 : decode cX1_reasonOf 49 = .ok (.ireturn, 1) := by decide +kernel
theorem dX1_reasonOf_50 : decode cX1_reasonOf 50 = .ok (.aload_n 0, 1) := by decide +kernel
theorem dX1_reasonOf_51 : decode cX1_reasonOf 51 = .ok (.getfield 23, 3) := by decide +kernel
theorem dX1_reasonOf_54 : decode cX1_reasonOf 54 = .ok (.iload_n 1, 1) := by decide +kernel
theorem dX1_reasonOf_55 : decode cX1_reasonOf 55 = .ok (.bipush 7, 2) := by decide +kernel
theorem dX1_reasonOf_57 : decode cX1_reasonOf 57 = .ok (.invokevirtual 104, 3) := by decide +kernel
theorem dX1_reasonOf_60 : decode cX1_reasonOf 60 = .ok (.ifCond .ne 24, 3) := by decide +kernel
theorem dX1_reasonOf_63 : decode cX1_reasonOf 63 = .ok (.aload_n 0, 1) := by decide +kernel
theorem dX1_reasonOf_64 : decode cX1_reasonOf 64 = .ok (.getfield 23, 3) := by decide +kernel
theorem dX1_reasonOf_67 : decode cX1_reasonOf 67 = .ok (.iload_n 1, 1) := by decide +kernel
theorem dX1_reasonOf_68 : decode cX1_reasonOf 68 = .ok (.bipush 8, 2) := by decide +kernel
theorem dX1_reasonOf_70 : decode cX1_reasonOf 70 = .ok (.invokevirtual 104, 3) := by decide +kernel
theorem dX1_reasonOf_73 : decode cX1_reasonOf 73 = .ok (.aload_n 0, 1) := by decide +kernel
theorem dX1_reasonOf_74 : decode cX1_reasonOf 74 = .ok (.getfield 74, 3) := by decide +kernel
theorem dX1_reasonOf_77 : decode cX1_reasonOf 77 = .ok (.if_icmp .le 7, 3) := by decide +kernel
theorem dX1_reasonOf_80 : decode cX1_reasonOf 80 = .ok (.iconst 4, 1) := by decide +kernel
theorem dX1_reasonOf_81 : decode cX1_reasonOf 81 = .ok (.goto 4, 3) := by decide +kernel
theorem dX1_reasonOf_84 : decode cX1_reasonOf 84 = .ok (.iconst 5, 1) := by decide +kernel
theorem dX1_reasonOf_85 : decode cX1_reasonOf 85 = .ok (.ireturn, 1) := by decide +kernel
theorem dX1_causeOf_0 : decode cX1_causeOf 0 = .ok (.iload_n 2, 1) := by decide +kernel
theorem dX1_causeOf_1 : decode cX1_causeOf 1 = .ok (.iconst 3, 1) := by decide +kernel
theorem dX1_causeOf_2 : decode cX1_causeOf 2 = .ok (.if_icmp .eq 8, 3) := by decide +kernel
theorem dX1_causeOf_5 : decode cX1_causeOf 5 = .ok (.iload_n 2, 1) := by decide +kernel
theorem dX1_causeOf_6 : decode cX1_causeOf 6 = .ok (.iconst 4, 1) := by decide +kernel
theorem dX1_causeOf_7 : decode cX1_causeOf 7 = .ok (.if_icmp .ne 19, 3) := by decide +kernel
theorem dX1_causeOf_26 : decode cX1_causeOf 26 = .ok (.iload_n 2, 1) := by decide +kernel
theorem dX1_causeOf_27 : decode cX1_causeOf 27 = .ok (.iconst 5, 1) := by decide +kernel
theorem dX1_causeOf_28 : decode cX1_causeOf 28 = .ok (.if_icmp .ne 18, 3) := by decide +kernel
theorem dX1_causeOf_31 : decode cX1_causeOf 31 = .ok (.iconst 3, 1) := by decide +kernel
theorem dX1_causeOf_32 : decode cX1_causeOf 32 = .ok (.aload_n 0, 1) := by decide +kernel
theorem dX1_causeOf_33 : decode cX1_causeOf 33 = .ok (.getfield 23, 3) := by decide +kernel
theorem dX1_causeOf_36 : decode cX1_causeOf 36 = .ok (.iload_n 1, 1) := by decide +kernel
theorem dX1_causeOf_37 : decode cX1_causeOf 37 = .ok (.bipush 7, 2) := by decide +kernel
theorem dX1_causeOf_39 : decode cX1_causeOf 39 = .ok (.invokevirtual 104, 3) := by decide +kernel
theorem dX1_causeOf_42 : decode cX1_causeOf 42 = .ok (.isub, 1) := by decide +kernel
theorem dX1_causeOf_43 : decode cX1_causeOf 43 = .ok (.goto 4, 3) := by decide +kernel
theorem dX1_causeOf_47 : decode cX1_causeOf 47 = .ok (.ireturn, 1) := by decide +kernel
theorem dX1_tick_0 : decode cX1_tick 0 = .ok (.aload_n 0, 1) := by decide +kernel
theorem dX1_tick_1 : decode cX1_tick 1 = .ok (.invokevirtual 169, 3) := by decide +kernel
theorem dX1_tick_4 : decode cX1_tick 4 = .ok (.aload_n 0, 1) := by decide +kernel
theorem dX1_tick_5 : decode cX1_tick 5 = .ok (.invokevirtual 172, 3) := by decide +kernel
theorem dX1_tick_8 : decode cX1_tick 8 = .ok (.aload_n 0, 1) := by decide +kernel
theorem dX1_tick_9 : decode cX1_tick 9 = .ok (.invokevirtual 175, 3) := by decide +kernel
theorem dX1_tick_12 : decode cX1_tick 12 = .ok (.aload_n 0, 1) := by decide +kernel
theorem dX1_tick_13 : decode cX1_tick 13 = .ok (.invokevirtual 178, 3) := by decide +kernel
theorem dX1_tick_16 : decode cX1_tick 16 = .ok (.aload_n 0, 1) := by decide +kernel
theorem dX1_tick_17 : decode cX1_tick 17 = .ok (.getfield 48, 3) := by decide +kernel
theorem dX1_tick_20 : decode cX1_tick 20 = .ok (.astore_n 1, 1) := by decide +kernel
theorem dX1_tick_21 : decode cX1_tick 21 = .ok (.aload_n 0, 1) := by decide +kernel
theorem dX1_tick_22 : decode cX1_tick 22 = .ok (.aload_n 0, 1) := by decide +kernel
theorem dX1_tick_23 : decode cX1_tick 23 = .ok (.getfield 52, 3) := by decide +kernel
theorem dX1_tick_26 : decode cX1_tick 26 = .ok (.putfield 48, 3) := by decide +kernel
theorem dX1_tick_29 : decode cX1_tick 29 = .ok (.aload_n 0, 1) := by decide +kernel
theorem dX1_tick_30 : decode cX1_tick 30 = .ok (.aload_n 1, 1) := by decide +kernel
theorem dX1_tick_31 : decode cX1_tick 31 = .ok (.putfield 52, 3) := by decide +kernel
theorem dX1_tick_34 : decode cX1_tick 34 = .ok (.aload_n 0, 1) := by decide +kernel
theorem dX1_tick_35 : decode cX1_tick 35 = .ok (.dup, 1) := by decide +kernel
theorem dX1_tick_36 : decode cX1_tick 36 = .ok (.getfield 74, 3) := by decide +kernel
theorem dX1_tick_39 : decode cX1_tick 39 = .ok (.iconst 1, 1) := by decide +kernel
theorem dX1_tick_40 : decode cX1_tick 40 = .ok (.iadd, 1) := by decide +kernel
theorem dX1_tick_41 : decode cX1_tick 41 = .ok (.putfield 74, 3) := by decide +kernel
theorem dX1_tick_44 : decode cX1_tick 44 = .ok (.return_, 1) := by decide +kernel
theorem dX1_messagesCome_0 : decode cX1_messagesCome 0 = .ok (.aload_n 0, 1) := by decide +kernel
theorem dX1_messagesCome_1 : decode cX1_messagesCome 1 = .ok (.iconst 1, 1) := by decide +kernel
theorem dX1_messagesCome_2 : decode cX1_messagesCome 2 = .ok (.putfield 94, 3) := by decide +kernel
theorem dX1_messagesCome_5 : decode cX1_messagesCome 5 = .ok (.iconst 0, 1) := by decide +kernel
theorem dX1_messagesCome_6 : decode cX1_messagesCome 6 = .ok (.istore_n 1, 1) := by decide +kernel
theorem dX1_messagesCome_7 : decode cX1_messagesCome 7 = .ok (.iload_n 1, 1) := by decide +kernel
theorem dX1_messagesCome_8 : decode cX1_messagesCome 8 = .ok (.aload_n 0, 1) := by decide +kernel
theorem dX1_messagesCome_9 : decode cX1_messagesCome 9 = .ok (.getfield 48, 3) := by decide +kernel
theorem dX1_messagesCome_12 : decode cX1_messagesCome 12 = .ok (.getfield 181, 3) := by decide +kernel
theorem dX1_messagesCome_15 : decode cX1_messagesCome 15 = .ok (.invokevirtual 111, 3) := by decide +kernel
theorem dX1_messagesCome_18 : decode cX1_messagesCome 18 = .ok (.if_icmp .ge 189, 3) := by decide +kernel
theorem dX1_messagesCome_21 : decode cX1_messagesCome 21 = .ok (.aload_n 0, 1) := by decide +kernel
theorem dX1_messagesCome_22 : decode cX1_messagesCome 22 = .ok (.aload_n 0, 1) := by decide +kernel
theorem dX1_messagesCome_23 : decode cX1_messagesCome 23 = .ok (.getfield 48, 3) := by decide +kernel
theorem dX1_messagesCome_26 : decode cX1_messagesCome 26 = .ok (.getfield 181, 3) := by decide +kernel
theorem dX1_messagesCome_29 : decode cX1_messagesCome 29 = .ok (.iload_n 1, 1) := by decide +kernel
theorem dX1_messagesCome_30 : decode cX1_messagesCome 30 = .ok (.iconst 0, 1) := by decide +kernel
theorem dX1_messagesCome_31 : decode cX1_messagesCome 31 = .ok (.invokevirtual 104, 3) := by decide +kernel
theorem dX1_messagesCome_34 : decode cX1_messagesCome 34 = .ok (.invokevirtual 184, 3) := by decide +kernel
theorem dX1_messagesCome_37 : decode cX1_messagesCome 37 = .ok (.iconst 0, 1) := by decide +kernel
theorem dX1_messagesCome_38 : decode cX1_messagesCome 38 = .ok (.istore_n 2, 1) := by decide +kernel
theorem dX1_messagesCome_39 : decode cX1_messagesCome 39 = .ok (.aload_n 0, 1) := by decide +kernel
theorem dX1_messagesCome_40 : decode cX1_messagesCome 40 = .ok (.getfield 42, 3) := by decide +kernel
theorem dX1_messagesCome_43 : decode cX1_messagesCome 43 = .ok (.invokevirtual 111, 3) := by decide +kernel
theorem dX1_messagesCome_46 : decode cX1_messagesCome 46 = .ok (.ifCond .le 155, 3) := by decide +kernel
theorem dX1_messagesCome_49 : decode cX1_messagesCome 49 = .ok (.iload_n 2, 1) := by decide +kernel
theorem dX1_messagesCome_50 : decode cX1_messagesCome 50 = .ok (.ldc 188, 2) := by decide +kernel
theorem dX1_messagesCome_52 : decode cX1_messagesCome 52 = .ok (.if_icmp .ge 149, 3) := by decide +kernel
theorem dX1_messagesCome_55 : decode cX1_messagesCome 55 = .ok (.aload_n 0, 1) := by decide +kernel
theorem dX1_messagesCome_56 : decode cX1_messagesCome 56 = .ok (.invokevirtual 189, 3) := by decide +kernel
theorem dX1_messagesCome_59 : decode cX1_messagesCome 59 = .ok (.istore_n 3, 1) := by decide +kernel
theorem dX1_messagesCome_60 : decode cX1_messagesCome 60 = .ok (.aload_n 0, 1) := by decide +kernel
theorem dX1_messagesCome_61 : decode cX1_messagesCome 61 = .ok (.iload_n 3, 1) := by decide +kernel
theorem dX1_messagesCome_62 : decode cX1_messagesCome 62 = .ok (.invokevirtual 192, 3) := by decide +kernel
theorem dX1_messagesCome_65 : decode cX1_messagesCome 65 = .ok (.ifCond .eq 21, 3) := by decide +kernel
theorem dX1_messagesCome_68 : decode cX1_messagesCome 68 = .ok (.aload_n 0, 1) := by decide +kernel
theorem dX1_messagesCome_69 : decode cX1_messagesCome 69 = .ok (.iload_n 3, 1) := by decide +kernel
theorem dX1_messagesCome_70 : decode cX1_messagesCome 70 = .ok (.invokevirtual 195, 3) := by decide +kernel
theorem dX1_messagesCome_73 : decode cX1_messagesCome 73 = .ok (.aload_n 0, 1) := by decide +kernel
theorem dX1_messagesCome_74 : decode cX1_messagesCome 74 = .ok (.iload_n 3, 1) := by decide +kernel
theorem dX1_messagesCome_75 : decode cX1_messagesCome 75 = .ok (.invokevirtual 198, 3) := by decide +kernel
theorem dX1_messagesCome_78 : decode cX1_messagesCome 78 = .ok (.aload_n 0, 1) := by decide +kernel
theorem dX1_messagesCome_79 : decode cX1_messagesCome 79 = .ok (.iload_n 3, 1) := by decide +kernel
theorem dX1_messagesCome_80 : decode cX1_messagesCome 80 = .ok (.invokevirtual 201, 3) := by decide +kernel
theorem dX1_messagesCome_83 : decode cX1_messagesCome 83 = .ok (.goto 112, 3) := by decide +kernel
theorem dX1_messagesCome_86 : decode cX1_messagesCome 86 = .ok (.aload_n 0, 1) := by decide +kernel
theorem dX1_messagesCome_87 : decode cX1_messagesCome 87 = .ok (.iload_n 3, 1) := by decide +kernel
theorem dX1_messagesCome_88 : decode cX1_messagesCome 88 = .ok (.invokevirtual 204, 3) := by decide +kernel
theorem dX1_messagesCome_91 : decode cX1_messagesCome 91 = .ok (.aload_n 0, 1) := by decide +kernel
theorem dX1_messagesCome_92 : decode cX1_messagesCome 92 = .ok (.getfield 48, 3) := by decide +kernel
theorem dX1_messagesCome_95 : decode cX1_messagesCome 95 = .ok (.getfield 207, 3) := by decide +kernel
theorem dX1_messagesCome_98 : decode cX1_messagesCome 98 = .ok (.iload_n 3, 1) := by decide +kernel
theorem dX1_messagesCome_99 : decode cX1_messagesCome 99 = .ok (.bipush 6, 2) := by decide +kernel
theorem dX1_messagesCome_101 : decode cX1_messagesCome 101 = .ok (.invokevirtual 104, 3) := by decide +kernel
theorem dX1_messagesCome_104 : decode cX1_messagesCome 104 = .ok (.istore 4, 2) := by decide +kernel
theorem dX1_messagesCome_106 : decode cX1_messagesCome 106 = .ok (.iconst 0, 1) := by decide +kernel
theorem dX1_messagesCome_107 : decode cX1_messagesCome 107 = .ok (.istore 5, 2) := by decide +kernel
theorem dX1_messagesCome_109 : decode cX1_messagesCome 109 = .ok (.iload 5, 2) := by decide +kernel
theorem dX1_messagesCome_111 : decode cX1_messagesCome 111 = .ok (.aload_n 0, 1) := by decide +kernel
theorem dX1_messagesCome_112 : decode cX1_messagesCome 112 = .ok (.getfield 14, 3) := by decide +kernel
theorem dX1_messagesCome_115 : decode cX1_messagesCome 115 = .ok (.invokevirtual 111, 3) := by decide +kernel
theorem dX1_messagesCome_118 : decode cX1_messagesCome 118 = .ok (.if_icmp .ge 77, 3) := by decide +kernel
theorem dX1_messagesCome_121 : decode cX1_messagesCome 121 = .ok (.aload_n 0, 1) := by decide +kernel
theorem dX1_messagesCome_122 : decode cX1_messagesCome 122 = .ok (.iload_n 3, 1) := by decide +kernel
theorem dX1_messagesCome_123 : decode cX1_messagesCome 123 = .ok (.iload 5, 2) := by decide +kernel
theorem dX1_messagesCome_125 : decode cX1_messagesCome 125 = .ok (.invokevirtual 210, 3) := by decide +kernel
theorem dX1_messagesCome_128 : decode cX1_messagesCome 128 = .ok (.istore 6, 2) := by decide +kernel
theorem dX1_messagesCome_130 : decode cX1_messagesCome 130 = .ok (.iload 6, 2) := by decide +kernel
theorem dX1_messagesCome_132 : decode cX1_messagesCome 132 = .ok (.ifCond .eq 18, 3) := by decide +kernel
theorem dX1_messagesCome_135 : decode cX1_messagesCome 135 = .ok (.iload 4, 2) := by decide +kernel
theorem dX1_messagesCome_137 : decode cX1_messagesCome 137 = .ok (.ifCond .ne 13, 3) := by decide +kernel
theorem dX1_messagesCome_140 : decode cX1_messagesCome 140 = .ok (.aload_n 0, 1) := by decide +kernel
theorem dX1_messagesCome_141 : decode cX1_messagesCome 141 = .ok (.iload_n 3, 1) := by decide +kernel
theorem dX1_messagesCome_142 : decode cX1_messagesCome 142 = .ok (.iload 5, 2) := by decide +kernel
theorem dX1_messagesCome_144 : decode cX1_messagesCome 144 = .ok (.invokevirtual 213, 3) := by decide +kernel
theorem dX1_messagesCome_147 : decode cX1_messagesCome 147 = .ok (.goto 42, 3) := by decide +kernel
theorem dX1_messagesCome_150 : decode cX1_messagesCome 150 = .ok (.iload 6, 2) := by decide +kernel
theorem dX1_messagesCome_152 : decode cX1_messagesCome 152 = .ok (.ifCond .eq 19, 3) := by decide +kernel
theorem dX1_messagesCome_155 : decode cX1_messagesCome 155 = .ok (.iload 4, 2) := by decide +kernel
theorem dX1_messagesCome_157 : decode cX1_messagesCome 157 = .ok (.iconst 1, 1) := by decide +kernel
theorem dX1_messagesCome_158 : decode cX1_messagesCome 158 = .ok (.if_icmp .ne 13, 3) := by decide +kernel
theorem dX1_messagesCome_161 : decode cX1_messagesCome 161 = .ok (.aload_n 0, 1) := by decide +kernel
theorem dX1_messagesCome_162 : decode cX1_messagesCome 162 = .ok (.iload_n 3, 1) := by decide +kernel
theorem dX1_messagesCome_163 : decode cX1_messagesCome 163 = .ok (.iload 5, 2) := by decide +kernel
theorem dX1_messagesCome_165 : decode cX1_messagesCome 165 = .ok (.invokevirtual 217, 3) := by decide +kernel
theorem dX1_messagesCome_168 : decode cX1_messagesCome 168 = .ok (.goto 21, 3) := by decide +kernel
theorem dX1_messagesCome_171 : decode cX1_messagesCome 171 = .ok (.iload 6, 2) := by decide +kernel
theorem dX1_messagesCome_173 : decode cX1_messagesCome 173 = .ok (.ifCond .eq 16, 3) := by decide +kernel
theorem dX1_messagesCome_176 : decode cX1_messagesCome 176 = .ok (.iload 4, 2) := by decide +kernel
theorem dX1_messagesCome_178 : decode cX1_messagesCome 178 = .ok (.iconst 2, 1) := by decide +kernel
theorem dX1_messagesCome_179 : decode cX1_messagesCome 179 = .ok (.if_icmp .ne 10, 3) := by decide +kernel
theorem dX1_messagesCome_182 : decode cX1_messagesCome 182 = .ok (.aload_n 0, 1) := by decide +kernel
theorem dX1_messagesCome_183 : decode cX1_messagesCome 183 = .ok (.iload_n 3, 1) := by decide +kernel
theorem dX1_messagesCome_184 : decode cX1_messagesCome 184 = .ok (.iload 5, 2) := by decide +kernel
theorem dX1_messagesCome_186 : decode cX1_messagesCome 186 = .ok (.invokevirtual 220, 3) := by decide +kernel
theorem dX1_messagesCome_189 : decode cX1_messagesCome 189 = .ok (.iinc 5 1, 3) := by decide +kernel
theorem dX1_messagesCome_192 : decode cX1_messagesCome 192 = .ok (.goto (-83), 3) := by decide +kernel
theorem dX1_messagesCome_195 : decode cX1_messagesCome 195 = .ok (.iinc 2 1, 3) := by decide +kernel
theorem dX1_messagesCome_198 : decode cX1_messagesCome 198 = .ok (.goto (-159), 3) := by decide +kernel
theorem dX1_messagesCome_201 : decode cX1_messagesCome 201 = .ok (.iinc 1 1, 3) := by decide +kernel
theorem dX1_messagesCome_204 : decode cX1_messagesCome 204 = .ok (.goto (-197), 3) := by decide +kernel
theorem dX1_messagesCome_207 : decode cX1_messagesCome 207 = .ok (.aload_n 0, 1) := by decide +kernel
theorem dX1_messagesCome_208 : decode cX1_messagesCome 208 = .ok (.getfield 48, 3) := by decide +kernel
theorem dX1_messagesCome_211 : decode cX1_messagesCome 211 = .ok (.invokevirtual 69, 3) := by decide +kernel
theorem dX1_messagesCome_214 : decode cX1_messagesCome 214 = .ok (.aload_n 0, 1) := by decide +kernel
theorem dX1_messagesCome_215 : decode cX1_messagesCome 215 = .ok (.getfield 29, 3) := by decide +kernel
theorem dX1_messagesCome_218 : decode cX1_messagesCome 218 = .ok (.invokevirtual 62, 3) := by decide +kernel
theorem dX1_messagesCome_221 : decode cX1_messagesCome 221 = .ok (.return_, 1) := by decide +kernel
theorem dX1_comesTo_0 : decode cX1_comesTo 0 = .ok (.aload_n 0, 1) := by decide +kernel
theorem dX1_comesTo_1 : decode cX1_comesTo 1 = .ok (.getfield 48, 3) := by decide +kernel
theorem dX1_comesTo_4 : decode cX1_comesTo 4 = .ok (.getfield 207, 3) := by decide +kernel
theorem dX1_comesTo_7 : decode cX1_comesTo 7 = .ok (.iload_n 1, 1) := by decide +kernel
theorem dX1_comesTo_8 : decode cX1_comesTo 8 = .ok (.iconst 0, 1) := by decide +kernel
theorem dX1_comesTo_9 : decode cX1_comesTo 9 = .ok (.invokevirtual 104, 3) := by decide +kernel
theorem dX1_comesTo_12 : decode cX1_comesTo 12 = .ok (.istore_n 3, 1) := by decide +kernel
theorem dX1_comesTo_13 : decode cX1_comesTo 13 = .ok (.iload_n 3, 1) := by decide +kernel
theorem dX1_comesTo_14 : decode cX1_comesTo 14 = .ok (.iconst (-1), 1) := by decide +kernel
theorem dX1_comesTo_15 : decode cX1_comesTo 15 = .ok (.if_icmp .eq 29, 3) := by decide +kernel
theorem dX1_comesTo_18 : decode cX1_comesTo 18 = .ok (.iload_n 3, 1) := by decide +kernel
theorem dX1_comesTo_19 : decode cX1_comesTo 19 = .ok (.iload_n 2, 1) := by decide +kernel
theorem dX1_comesTo_20 : decode cX1_comesTo 20 = .ok (.if_icmp .eq 24, 3) := by decide +kernel
theorem dX1_comesTo_23 : decode cX1_comesTo 23 = .ok (.aload_n 0, 1) := by decide +kernel
theorem dX1_comesTo_24 : decode cX1_comesTo 24 = .ok (.iload_n 2, 1) := by decide +kernel
theorem dX1_comesTo_25 : decode cX1_comesTo 25 = .ok (.invokevirtual 114, 3) := by decide +kernel
theorem dX1_comesTo_28 : decode cX1_comesTo 28 = .ok (.ifCond .eq 16, 3) := by decide +kernel
theorem dX1_comesTo_31 : decode cX1_comesTo 31 = .ok (.aload_n 0, 1) := by decide +kernel
theorem dX1_comesTo_32 : decode cX1_comesTo 32 = .ok (.iload_n 2, 1) := by decide +kernel
theorem dX1_comesTo_33 : decode cX1_comesTo 33 = .ok (.iload_n 3, 1) := by decide +kernel
theorem dX1_comesTo_34 : decode cX1_comesTo 34 = .ok (.invokevirtual 160, 3) := by decide +kernel
theorem dX1_comesTo_37 : decode cX1_comesTo 37 = .ok (.ifCond .eq 7, 3) := by decide +kernel
theorem dX1_comesTo_40 : decode cX1_comesTo 40 = .ok (.iconst 1, 1) := by decide +kernel
theorem dX1_comesTo_41 : decode cX1_comesTo 41 = .ok (.goto 4, 3) := by decide +kernel
theorem dX1_comesTo_44 : decode cX1_comesTo 44 = .ok (.iconst 0, 1) := by decide +kernel
theorem dX1_comesTo_45 : decode cX1_comesTo 45 = .ok (.ireturn, 1) := by decide +kernel
theorem dX1_openPart_0 : decode cX1_openPart 0 = .ok (.aload_n 0, 1) := by decide +kernel
theorem dX1_openPart_1 : decode cX1_openPart 1 = .ok (.getfield 42, 3) := by decide +kernel
theorem dX1_openPart_4 : decode cX1_openPart 4 = .ok (.aload_n 0, 1) := by decide +kernel
theorem dX1_openPart_5 : decode cX1_openPart 5 = .ok (.getfield 42, 3) := by decide +kernel
theorem dX1_openPart_8 : decode cX1_openPart 8 = .ok (.invokevirtual 65, 3) := by decide +kernel
theorem dX1_openPart_11 : decode cX1_openPart 11 = .ok (.iconst 0, 1) := by decide +kernel
theorem dX1_openPart_12 : decode cX1_openPart 12 = .ok (.iload_n 1, 1) := by decide +kernel
theorem dX1_openPart_13 : decode cX1_openPart 13 = .ok (.invokevirtual 223, 3) := by decide +kernel
theorem dX1_openPart_16 : decode cX1_openPart 16 = .ok (.return_, 1) := by decide +kernel
theorem dX1_takeOpenPart_0 : decode cX1_takeOpenPart 0 = .ok (.aload_n 0, 1) := by decide +kernel
theorem dX1_takeOpenPart_1 : decode cX1_takeOpenPart 1 = .ok (.getfield 42, 3) := by decide +kernel
theorem dX1_takeOpenPart_4 : decode cX1_takeOpenPart 4 = .ok (.aload_n 0, 1) := by decide +kernel
theorem dX1_takeOpenPart_5 : decode cX1_takeOpenPart 5 = .ok (.getfield 42, 3) := by decide +kernel
theorem dX1_takeOpenPart_8 : decode cX1_takeOpenPart 8 = .ok (.invokevirtual 111, 3) := by decide +kernel
theorem dX1_takeOpenPart_11 : decode cX1_takeOpenPart 11 = .ok (.iconst 1, 1) := by decide +kernel
theorem dX1_takeOpenPart_12 : decode cX1_takeOpenPart 12 = .ok (.isub, 1) := by decide +kernel
theorem dX1_takeOpenPart_13 : decode cX1_takeOpenPart 13 = .ok (.iconst 0, 1) := by decide +kernel
theorem dX1_takeOpenPart_14 : decode cX1_takeOpenPart 14 = .ok (.invokevirtual 104, 3) := by decide +kernel
theorem dX1_takeOpenPart_17 : decode cX1_takeOpenPart 17 = .ok (.istore_n 1, 1) := by decide +kernel
theorem dX1_takeOpenPart_18 : decode cX1_takeOpenPart 18 = .ok (.aload_n 0, 1) := by decide +kernel
theorem dX1_takeOpenPart_19 : decode cX1_takeOpenPart 19 = .ok (.getfield 42, 3) := by decide +kernel
theorem dX1_takeOpenPart_22 : decode cX1_takeOpenPart 22 = .ok (.aload_n 0, 1) := by decide +kernel
theorem dX1_takeOpenPart_23 : decode cX1_takeOpenPart 23 = .ok (.getfield 42, 3) := by decide +kernel
theorem dX1_takeOpenPart_26 : decode cX1_takeOpenPart 26 = .ok (.invokevirtual 111, 3) := by decide +kernel
theorem dX1_takeOpenPart_29 : decode cX1_takeOpenPart 29 = .ok (.iconst 1, 1) := by decide +kernel
theorem dX1_takeOpenPart_30 : decode cX1_takeOpenPart 30 = .ok (.isub, 1) := by decide +kernel
theorem dX1_takeOpenPart_31 : decode cX1_takeOpenPart 31 = .ok (.invokevirtual 226, 3) := by decide +kernel
theorem dX1_takeOpenPart_34 : decode cX1_takeOpenPart 34 = .ok (.iload_n 1, 1) := by decide +kernel
theorem dX1_takeOpenPart_35 : decode cX1_takeOpenPart 35 = .ok (.ireturn, 1) := by decide +kernel
theorem dX1_openPieces_0 : decode cX1_openPieces 0 = .ok (.aload_n 0, 1) := by decide +kernel
theorem dX1_openPieces_1 : decode cX1_openPieces 1 = .ok (.getfield 48, 3) := by decide +kernel
theorem dX1_openPieces_4 : decode cX1_openPieces 4 = .ok (.getfield 207, 3) := by decide +kernel
theorem dX1_openPieces_7 : decode cX1_openPieces 7 = .ok (.iload_n 1, 1) := by decide +kernel
theorem dX1_openPieces_8 : decode cX1_openPieces 8 = .ok (.bipush 10, 2) := by decide +kernel
theorem dX1_openPieces_10 : decode cX1_openPieces 10 = .ok (.invokevirtual 104, 3) := by decide +kernel
theorem dX1_openPieces_13 : decode cX1_openPieces 13 = .ok (.istore_n 2, 1) := by decide +kernel
theorem dX1_openPieces_14 : decode cX1_openPieces 14 = .ok (.iload_n 2, 1) := by decide +kernel
theorem dX1_openPieces_15 : decode cX1_openPieces 15 = .ok (.aload_n 0, 1) := by decide +kernel
theorem dX1_openPieces_16 : decode cX1_openPieces 16 = .ok (.getfield 48, 3) := by decide +kernel
theorem dX1_openPieces_19 : decode cX1_openPieces 19 = .ok (.getfield 207, 3) := by decide +kernel
theorem dX1_openPieces_22 : decode cX1_openPieces 22 = .ok (.iload_n 1, 1) := by decide +kernel
theorem dX1_openPieces_23 : decode cX1_openPieces 23 = .ok (.bipush 11, 2) := by decide +kernel
theorem dX1_openPieces_25 : decode cX1_openPieces 25 = .ok (.invokevirtual 104, 3) := by decide +kernel
theorem dX1_openPieces_28 : decode cX1_openPieces 28 = .ok (.iadd, 1) := by decide +kernel
theorem dX1_openPieces_29 : decode cX1_openPieces 29 = .ok (.iconst 1, 1) := by decide +kernel
theorem dX1_openPieces_30 : decode cX1_openPieces 30 = .ok (.isub, 1) := by decide +kernel
theorem dX1_openPieces_31 : decode cX1_openPieces 31 = .ok (.istore_n 3, 1) := by decide +kernel
theorem dX1_openPieces_32 : decode cX1_openPieces 32 = .ok (.iload_n 3, 1) := by decide +kernel
theorem dX1_openPieces_33 : decode cX1_openPieces 33 = .ok (.iload_n 2, 1) := by decide +kernel
theorem dX1_openPieces_34 : decode cX1_openPieces 34 = .ok (.if_icmp .lt 25, 3) := by decide +kernel
theorem dX1_openPieces_37 : decode cX1_openPieces 37 = .ok (.aload_n 0, 1) := by decide +kernel
theorem dX1_openPieces_38 : decode cX1_openPieces 38 = .ok (.aload_n 0, 1) := by decide +kernel
theorem dX1_openPieces_39 : decode cX1_openPieces 39 = .ok (.getfield 48, 3) := by decide +kernel
theorem dX1_openPieces_42 : decode cX1_openPieces 42 = .ok (.getfield 229, 3) := by decide +kernel
theorem dX1_openPieces_45 : decode cX1_openPieces 45 = .ok (.iload_n 3, 1) := by decide +kernel
theorem dX1_openPieces_46 : decode cX1_openPieces 46 = .ok (.iconst 0, 1) := by decide +kernel
theorem dX1_openPieces_47 : decode cX1_openPieces 47 = .ok (.invokevirtual 104, 3) := by decide +kernel
theorem dX1_openPieces_50 : decode cX1_openPieces 50 = .ok (.invokevirtual 184, 3) := by decide +kernel
theorem dX1_openPieces_53 : decode cX1_openPieces 53 = .ok (.iinc 3 (-1), 3) := by decide +kernel
theorem dX1_openPieces_56 : decode cX1_openPieces 56 = .ok (.goto (-24), 3) := by decide +kernel
theorem dX1_openPieces_59 : decode cX1_openPieces 59 = .ok (.return_, 1) := by decide +kernel
theorem dX1_isCalm_0 : decode cX1_isCalm 0 = .ok (.aload_n 0, 1) := by decide +kernel
theorem dX1_isCalm_1 : decode cX1_isCalm 1 = .ok (.invokevirtual 232, 3) := by decide +kernel
theorem dX1_isCalm_4 : decode cX1_isCalm 4 = .ok (.ifCond .ne 7, 3) := by decide +kernel
theorem dX1_isCalm_7 : decode cX1_isCalm 7 = .ok (.iconst 1, 1) := by decide +kernel
theorem dX1_isCalm_8 : decode cX1_isCalm 8 = .ok (.goto 4, 3) := by decide +kernel
theorem dX1_isCalm_12 : decode cX1_isCalm 12 = .ok (.istore_n 2, 1) := by decide +kernel
theorem dX1_isCalm_13 : decode cX1_isCalm 13 = .ok (.iconst 0, 1) := by decide +kernel
theorem dX1_isCalm_14 : decode cX1_isCalm 14 = .ok (.istore_n 3, 1) := by decide +kernel
theorem dX1_isCalm_15 : decode cX1_isCalm 15 = .ok (.iload_n 2, 1) := by decide +kernel
theorem dX1_isCalm_16 : decode cX1_isCalm 16 = .ok (.ifCond .eq 53, 3) := by decide +kernel
theorem dX1_isCalm_19 : decode cX1_isCalm 19 = .ok (.iload_n 3, 1) := by decide +kernel
theorem dX1_isCalm_20 : decode cX1_isCalm 20 = .ok (.bipush 6, 2) := by decide +kernel
theorem dX1_isCalm_22 : decode cX1_isCalm 22 = .ok (.if_icmp .ge 47, 3) := by decide +kernel
theorem dX1_isCalm_25 : decode cX1_isCalm 25 = .ok (.aload_n 0, 1) := by decide +kernel
theorem dX1_isCalm_26 : decode cX1_isCalm 26 = .ok (.getfield 48, 3) := by decide +kernel
theorem dX1_isCalm_29 : decode cX1_isCalm 29 = .ok (.getfield 207, 3) := by decide +kernel
theorem dX1_isCalm_32 : decode cX1_isCalm 32 = .ok (.iload_n 1, 1) := by decide +kernel
theorem dX1_isCalm_33 : decode cX1_isCalm 33 = .ok (.bipush 18, 2) := by decide +kernel
theorem dX1_isCalm_35 : decode cX1_isCalm 35 = .ok (.iload_n 3, 1) := by decide +kernel
theorem dX1_isCalm_36 : decode cX1_isCalm 36 = .ok (.iadd, 1) := by decide +kernel
theorem dX1_isCalm_37 : decode cX1_isCalm 37 = .ok (.invokevirtual 104, 3) := by decide +kernel
theorem dX1_isCalm_40 : decode cX1_isCalm 40 = .ok (.istore 4, 2) := by decide +kernel
theorem dX1_isCalm_42 : decode cX1_isCalm 42 = .ok (.iload 4, 2) := by decide +kernel
theorem dX1_isCalm_44 : decode cX1_isCalm 44 = .ok (.iconst (-1), 1) := by decide +kernel
theorem dX1_isCalm_45 : decode cX1_isCalm 45 = .ok (.if_icmp .eq 12, 3) := by decide +kernel
theorem dX1_isCalm_48 : decode cX1_isCalm 48 = .ok (.aload_n 0, 1) := by decide +kernel
theorem dX1_isCalm_49 : decode cX1_isCalm 49 = .ok (.iload 4, 2) := by decide +kernel
theorem dX1_isCalm_51 : decode cX1_isCalm 51 = .ok (.invokevirtual 236, 3) := by decide +kernel
theorem dX1_isCalm_54 : decode cX1_isCalm 54 = .ok (.ifCond .eq 7, 3) := by decide +kernel
theorem dX1_isCalm_57 : decode cX1_isCalm 57 = .ok (.iconst 1, 1) := by decide +kernel
theorem dX1_isCalm_58 : decode cX1_isCalm 58 = .ok (.goto 4, 3) := by decide +kernel
theorem dX1_isCalm_61 : decode cX1_isCalm 61 = .ok (.iconst 0, 1) := by decide +kernel
theorem dX1_isCalm_62 : decode cX1_isCalm 62 = .ok (.istore_n 2, 1) := by decide +kernel
theorem dX1_isCalm_63 : decode cX1_isCalm 63 = .ok (.iinc 3 1, 3) := by decide +kernel
theorem dX1_isCalm_66 : decode cX1_isCalm 66 = .ok (.goto (-51), 3) := by decide +kernel
theorem dX1_isCalm_69 : decode cX1_isCalm 69 = .ok (.iload_n 2, 1) := by decide +kernel
theorem dX1_isCalm_70 : decode cX1_isCalm 70 = .ok (.ireturn, 1) := by decide +kernel
theorem dX1_hasMarkAhead_0 : decode cX1_hasMarkAhead 0 = .ok (.iconst 0, 1) := by decide +kernel
theorem dX1_hasMarkAhead_1 : decode cX1_hasMarkAhead 1 = .ok (.istore_n 1, 1) := by decide +kernel
theorem dX1_hasMarkAhead_2 : decode cX1_hasMarkAhead 2 = .ok (.iload_n 1, 1) := by decide +kernel
theorem dX1_hasMarkAhead_3 : decode cX1_hasMarkAhead 3 = .ok (.aload_n 0, 1) := by decide +kernel
theorem dX1_hasMarkAhead_4 : decode cX1_hasMarkAhead 4 = .ok (.getfield 32, 3) := by decide +kernel
theorem dX1_hasMarkAhead_7 : decode cX1_hasMarkAhead 7 = .ok (.invokevirtual 111, 3) := by decide +kernel
theorem dX1_hasMarkAhead_10 : decode cX1_hasMarkAhead 10 = .ok (.if_icmp .ge 29, 3) := by decide +kernel
theorem dX1_hasMarkAhead_13 : decode cX1_hasMarkAhead 13 = .ok (.aload_n 0, 1) := by decide +kernel
theorem dX1_hasMarkAhead_14 : decode cX1_hasMarkAhead 14 = .ok (.getfield 32, 3) := by decide +kernel
theorem dX1_hasMarkAhead_17 : decode cX1_hasMarkAhead 17 = .ok (.iload_n 1, 1) := by decide +kernel
theorem dX1_hasMarkAhead_18 : decode cX1_hasMarkAhead 18 = .ok (.iconst 0, 1) := by decide +kernel
theorem dX1_hasMarkAhead_19 : decode cX1_hasMarkAhead 19 = .ok (.invokevirtual 104, 3) := by decide +kernel
theorem dX1_hasMarkAhead_22 : decode cX1_hasMarkAhead 22 = .ok (.i2l, 1) := by decide +kernel
theorem dX1_hasMarkAhead_23 : decode cX1_hasMarkAhead 23 = .ok (.aload_n 0, 1) := by decide +kernel
theorem dX1_hasMarkAhead_24 : decode cX1_hasMarkAhead 24 = .ok (.getfield 78, 3) := by decide +kernel
theorem dX1_hasMarkAhead_27 : decode cX1_hasMarkAhead 27 = .ok (.lcmp, 1) := by decide +kernel
theorem dX1_hasMarkAhead_28 : decode cX1_hasMarkAhead 28 = .ok (.ifCond .lt 5, 3) := by decide +kernel
theorem dX1_hasMarkAhead_31 : decode cX1_hasMarkAhead 31 = .ok (.iconst 1, 1) := by decide +kernel
theorem dX1_hasMarkAhead_32 : decode cX1_hasMarkAhead 32 = .ok (.ireturn, 1) := by decide +kernel
theorem dX1_hasMarkAhead_39 : decode cX1_hasMarkAhead 39 = .ok (.iconst 0, 1) := by decide +kernel
theorem dX1_hasMarkAhead_40 : decode cX1_hasMarkAhead 40 = .ok (.ireturn, 1) := by decide +kernel
theorem dX1_isCalmMessage_0 : decode cX1_isCalmMessage 0 = .ok (.aload_n 0, 1) := by decide +kernel
theorem dX1_isCalmMessage_1 : decode cX1_isCalmMessage 1 = .ok (.getfield 48, 3) := by decide +kernel
theorem dX1_isCalmMessage_4 : decode cX1_isCalmMessage 4 = .ok (.getfield 207, 3) := by decide +kernel
theorem dX1_isCalmMessage_7 : decode cX1_isCalmMessage 7 = .ok (.iload_n 1, 1) := by decide +kernel
theorem dX1_isCalmMessage_8 : decode cX1_isCalmMessage 8 = .ok (.bipush 6, 2) := by decide +kernel
theorem dX1_isCalmMessage_10 : decode cX1_isCalmMessage 10 = .ok (.invokevirtual 104, 3) := by decide +kernel
theorem dX1_isCalmMessage_13 : decode cX1_isCalmMessage 13 = .ok (.iconst 1, 1) := by decide +kernel
theorem dX1_isCalmMessage_14 : decode cX1_isCalmMessage 14 = .ok (.if_icmp .ne 22, 3) := by decide +kernel
theorem dX1_isCalmMessage_17 : decode cX1_isCalmMessage 17 = .ok (.aload_n 0, 1) := by decide +kernel
theorem dX1_isCalmMessage_18 : decode cX1_isCalmMessage 18 = .ok (.getfield 48, 3) := by decide +kernel
theorem dX1_isCalmMessage_21 : decode cX1_isCalmMessage 21 = .ok (.getfield 207, 3) := by decide +kernel
theorem dX1_isCalmMessage_24 : decode cX1_isCalmMessage 24 = .ok (.iload_n 1, 1) := by decide +kernel
theorem dX1_isCalmMessage_25 : decode cX1_isCalmMessage 25 = .ok (.iconst 4, 1) := by decide +kernel
theorem dX1_isCalmMessage_26 : decode cX1_isCalmMessage 26 = .ok (.invokevirtual 104, 3) := by decide +kernel
theorem dX1_isCalmMessage_29 : decode cX1_isCalmMessage 29 = .ok (.ifCond .le 7, 3) := by decide +kernel
theorem dX1_isCalmMessage_32 : decode cX1_isCalmMessage 32 = .ok (.iconst 1, 1) := by decide +kernel
theorem dX1_isCalmMessage_33 : decode cX1_isCalmMessage 33 = .ok (.goto 4, 3) := by decide +kernel
theorem dX1_isCalmMessage_36 : decode cX1_isCalmMessage 36 = .ok (.iconst 0, 1) := by decide +kernel
theorem dX1_isCalmMessage_37 : decode cX1_isCalmMessage 37 = .ok (.istore_n 2, 1) := by decide +kernel
theorem dX1_isCalmMessage_38 : decode cX1_isCalmMessage 38 = .ok (.iconst 0, 1) := by decide +kernel
theorem dX1_isCalmMessage_39 : decode cX1_isCalmMessage 39 = .ok (.istore_n 3, 1) := by decide +kernel
theorem dX1_isCalmMessage_40 : decode cX1_isCalmMessage 40 = .ok (.iload_n 2, 1) := by decide +kernel
theorem dX1_isCalmMessage_41 : decode cX1_isCalmMessage 41 = .ok (.ifCond .eq 126, 3) := by decide +kernel
theorem dX1_isCalmMessage_44 : decode cX1_isCalmMessage 44 = .ok (.iload_n 3, 1) := by decide +kernel
theorem dX1_isCalmMessage_45 : decode cX1_isCalmMessage 45 = .ok (.aload_n 0, 1) := by decide +kernel
theorem dX1_isCalmMessage_46 : decode cX1_isCalmMessage 46 = .ok (.getfield 23, 3) := by decide +kernel
theorem dX1_isCalmMessage_49 : decode cX1_isCalmMessage 49 = .ok (.invokevirtual 111, 3) := by decide +kernel
theorem dX1_isCalmMessage_52 : decode cX1_isCalmMessage 52 = .ok (.if_icmp .ge 115, 3) := by decide +kernel
theorem dX1_isCalmMessage_55 : decode cX1_isCalmMessage 55 = .ok (.aload_n 0, 1) := by decide +kernel
theorem dX1_isCalmMessage_56 : decode cX1_isCalmMessage 56 = .ok (.getfield 23, 3) := by decide +kernel
theorem dX1_isCalmMessage_59 : decode cX1_isCalmMessage 59 = .ok (.iload_n 3, 1) := by decide +kernel
theorem dX1_isCalmMessage_60 : decode cX1_isCalmMessage 60 = .ok (.aload_n 0, 1) := by decide +kernel
theorem dX1_isCalmMessage_61 : decode cX1_isCalmMessage 61 = .ok (.getfield 48, 3) := by decide +kernel
theorem dX1_isCalmMessage_64 : decode cX1_isCalmMessage 64 = .ok (.getfield 207, 3) := by decide +kernel
theorem dX1_isCalmMessage_67 : decode cX1_isCalmMessage 67 = .ok (.iload_n 1, 1) := by decide +kernel
theorem dX1_isCalmMessage_68 : decode cX1_isCalmMessage 68 = .ok (.invokevirtual 146, 3) := by decide +kernel
theorem dX1_isCalmMessage_71 : decode cX1_isCalmMessage 71 = .ok (.ifCond .eq 90, 3) := by decide +kernel
theorem dX1_isCalmMessage_74 : decode cX1_isCalmMessage 74 = .ok (.aload_n 0, 1) := by decide +kernel
theorem dX1_isCalmMessage_75 : decode cX1_isCalmMessage 75 = .ok (.iload_n 1, 1) := by decide +kernel
theorem dX1_isCalmMessage_76 : decode cX1_isCalmMessage 76 = .ok (.aload_n 0, 1) := by decide +kernel
theorem dX1_isCalmMessage_77 : decode cX1_isCalmMessage 77 = .ok (.getfield 23, 3) := by decide +kernel
theorem dX1_isCalmMessage_80 : decode cX1_isCalmMessage 80 = .ok (.iload_n 3, 1) := by decide +kernel
theorem dX1_isCalmMessage_81 : decode cX1_isCalmMessage 81 = .ok (.iconst 0, 1) := by decide +kernel
theorem dX1_isCalmMessage_82 : decode cX1_isCalmMessage 82 = .ok (.invokevirtual 104, 3) := by decide +kernel
theorem dX1_isCalmMessage_85 : decode cX1_isCalmMessage 85 = .ok (.invokevirtual 210, 3) := by decide +kernel
theorem dX1_isCalmMessage_88 : decode cX1_isCalmMessage 88 = .ok (.ifCond .eq 73, 3) := by decide +kernel
theorem dX1_isCalmMessage_91 : decode cX1_isCalmMessage 91 = .ok (.aload_n 0, 1) := by decide +kernel
theorem dX1_isCalmMessage_92 : decode cX1_isCalmMessage 92 = .ok (.getfield 23, 3) := by decide +kernel
theorem dX1_isCalmMessage_95 : decode cX1_isCalmMessage 95 = .ok (.iload_n 3, 1) := by decide +kernel
theorem dX1_isCalmMessage_96 : decode cX1_isCalmMessage 96 = .ok (.bipush 6, 2) := by decide +kernel
theorem dX1_isCalmMessage_98 : decode cX1_isCalmMessage 98 = .ok (.invokevirtual 104, 3) := by decide +kernel
theorem dX1_isCalmMessage_101 : decode cX1_isCalmMessage 101 = .ok (.ifCond .ne 7, 3) := by decide +kernel
theorem dX1_isCalmMessage_104 : decode cX1_isCalmMessage 104 = .ok (.iconst 1, 1) := by decide +kernel
theorem dX1_isCalmMessage_105 : decode cX1_isCalmMessage 105 = .ok (.goto 4, 3) := by decide +kernel
theorem dX1_isCalmMessage_109 : decode cX1_isCalmMessage 109 = .ok (.istore 4, 2) := by decide +kernel
theorem dX1_isCalmMessage_111 : decode cX1_isCalmMessage 111 = .ok (.aload_n 0, 1) := by decide +kernel
theorem dX1_isCalmMessage_112 : decode cX1_isCalmMessage 112 = .ok (.getfield 23, 3) := by decide +kernel
theorem dX1_isCalmMessage_115 : decode cX1_isCalmMessage 115 = .ok (.iload_n 3, 1) := by decide +kernel
theorem dX1_isCalmMessage_116 : decode cX1_isCalmMessage 116 = .ok (.aload_n 0, 1) := by decide +kernel
theorem dX1_isCalmMessage_117 : decode cX1_isCalmMessage 117 = .ok (.getfield 48, 3) := by decide +kernel
theorem dX1_isCalmMessage_120 : decode cX1_isCalmMessage 120 = .ok (.getfield 207, 3) := by decide +kernel
theorem dX1_isCalmMessage_123 : decode cX1_isCalmMessage 123 = .ok (.iload_n 1, 1) := by decide +kernel
theorem dX1_isCalmMessage_124 : decode cX1_isCalmMessage 124 = .ok (.invokevirtual 150, 3) := by decide +kernel
theorem dX1_isCalmMessage_127 : decode cX1_isCalmMessage 127 = .ok (.ifCond .ge 7, 3) := by decide +kernel
theorem dX1_isCalmMessage_130 : decode cX1_isCalmMessage 130 = .ok (.iconst 1, 1) := by decide +kernel
theorem dX1_isCalmMessage_131 : decode cX1_isCalmMessage 131 = .ok (.goto 4, 3) := by decide +kernel
theorem dX1_isCalmMessage_135 : decode cX1_isCalmMessage 135 = .ok (.istore 5, 2) := by decide +kernel
theorem dX1_isCalmMessage_137 : decode cX1_isCalmMessage 137 = .ok (.iload 4, 2) := by decide +kernel
theorem dX1_isCalmMessage_139 : decode cX1_isCalmMessage 139 = .ok (.ifCond .ne 20, 3) := by decide +kernel
theorem dX1_isCalmMessage_142 : decode cX1_isCalmMessage 142 = .ok (.aload_n 0, 1) := by decide +kernel
theorem dX1_isCalmMessage_143 : decode cX1_isCalmMessage 143 = .ok (.iload_n 3, 1) := by decide +kernel
theorem dX1_isCalmMessage_144 : decode cX1_isCalmMessage 144 = .ok (.invokevirtual 154, 3) := by decide +kernel
theorem dX1_isCalmMessage_147 : decode cX1_isCalmMessage 147 = .ok (.ifCond .eq 8, 3) := by decide +kernel
theorem dX1_isCalmMessage_150 : decode cX1_isCalmMessage 150 = .ok (.iload 5, 2) := by decide +kernel
theorem dX1_isCalmMessage_152 : decode cX1_isCalmMessage 152 = .ok (.ifCond .ne 7, 3) := by decide +kernel
theorem dX1_isCalmMessage_159 : decode cX1_isCalmMessage 159 = .ok (.iconst 0, 1) := by decide +kernel
theorem dX1_isCalmMessage_160 : decode cX1_isCalmMessage 160 = .ok (.istore_n 2, 1) := by decide +kernel
theorem dX1_isCalmMessage_161 : decode cX1_isCalmMessage 161 = .ok (.iinc 3 1, 3) := by decide +kernel
theorem dX1_isCalmMessage_164 : decode cX1_isCalmMessage 164 = .ok (.goto (-124), 3) := by decide +kernel
theorem dX1_isCalmMessage_167 : decode cX1_isCalmMessage 167 = .ok (.iload_n 2, 1) := by decide +kernel
theorem dX1_isCalmMessage_168 : decode cX1_isCalmMessage 168 = .ok (.ireturn, 1) := by decide +kernel
theorem dX1_findReply_0 : decode cX1_findReply 0 = .ok (.aload_n 0, 1) := by decide +kernel
theorem dX1_findReply_1 : decode cX1_findReply 1 = .ok (.getfield 48, 3) := by decide +kernel
theorem dX1_findReply_4 : decode cX1_findReply 4 = .ok (.getfield 207, 3) := by decide +kernel
theorem dX1_findReply_7 : decode cX1_findReply 7 = .ok (.iload_n 1, 1) := by decide +kernel
theorem dX1_findReply_8 : decode cX1_findReply 8 = .ok (.bipush 25, 2) := by decide +kernel
theorem dX1_findReply_10 : decode cX1_findReply 10 = .ok (.invokevirtual 104, 3) := by decide +kernel
theorem dX1_findReply_13 : decode cX1_findReply 13 = .ok (.aload_n 0, 1) := by decide +kernel
theorem dX1_findReply_14 : decode cX1_findReply 14 = .ok (.getfield 94, 3) := by decide +kernel
theorem dX1_findReply_17 : decode cX1_findReply 17 = .ok (.if_icmp .ne 4, 3) := by decide +kernel
theorem dX1_findReply_20 : decode cX1_findReply 20 = .ok (.return_, 1) := by decide +kernel
theorem dX1_findReply_21 : decode cX1_findReply 21 = .ok (.aload_n 0, 1) := by decide +kernel
theorem dX1_findReply_22 : decode cX1_findReply 22 = .ok (.getfield 48, 3) := by decide +kernel
theorem dX1_findReply_25 : decode cX1_findReply 25 = .ok (.iload_n 1, 1) := by decide +kernel
theorem dX1_findReply_26 : decode cX1_findReply 26 = .ok (.aload_n 0, 1) := by decide +kernel
theorem dX1_findReply_27 : decode cX1_findReply 27 = .ok (.getfield 94, 3) := by decide +kernel
theorem dX1_findReply_30 : decode cX1_findReply 30 = .ok (.invokevirtual 239, 3) := by decide +kernel
theorem dX1_findReply_33 : decode cX1_findReply 33 = .ok (.iconst 0, 1) := by decide +kernel
theorem dX1_findReply_34 : decode cX1_findReply 34 = .ok (.istore_n 2, 1) := by decide +kernel
theorem dX1_findReply_35 : decode cX1_findReply 35 = .ok (.iload_n 2, 1) := by decide +kernel
theorem dX1_findReply_36 : decode cX1_findReply 36 = .ok (.iload_n 1, 1) := by decide +kernel
theorem dX1_findReply_37 : decode cX1_findReply 37 = .ok (.if_icmp .gt 67, 3) := by decide +kernel
theorem dX1_findReply_40 : decode cX1_findReply 40 = .ok (.aload_n 0, 1) := by decide +kernel
theorem dX1_findReply_41 : decode cX1_findReply 41 = .ok (.getfield 48, 3) := by decide +kernel
theorem dX1_findReply_44 : decode cX1_findReply 44 = .ok (.iload_n 2, 1) := by decide +kernel
theorem dX1_findReply_45 : decode cX1_findReply 45 = .ok (.aload_n 0, 1) := by decide +kernel
theorem dX1_findReply_46 : decode cX1_findReply 46 = .ok (.getfield 94, 3) := by decide +kernel
theorem dX1_findReply_49 : decode cX1_findReply 49 = .ok (.invokevirtual 242, 3) := by decide +kernel
theorem dX1_findReply_52 : decode cX1_findReply 52 = .ok (.ifCond .eq 46, 3) := by decide +kernel
theorem dX1_findReply_55 : decode cX1_findReply 55 = .ok (.aload_n 0, 1) := by decide +kernel
theorem dX1_findReply_56 : decode cX1_findReply 56 = .ok (.getfield 48, 3) := by decide +kernel
theorem dX1_findReply_59 : decode cX1_findReply 59 = .ok (.iload_n 2, 1) := by decide +kernel
theorem dX1_findReply_60 : decode cX1_findReply 60 = .ok (.invokevirtual 245, 3) := by decide +kernel
theorem dX1_findReply_63 : decode cX1_findReply 63 = .ok (.ifCond .eq 11, 3) := by decide +kernel
theorem dX1_findReply_66 : decode cX1_findReply 66 = .ok (.aload_n 0, 1) := by decide +kernel
theorem dX1_findReply_67 : decode cX1_findReply 67 = .ok (.iload_n 2, 1) := by decide +kernel
theorem dX1_findReply_68 : decode cX1_findReply 68 = .ok (.invokevirtual 248, 3) := by decide +kernel
theorem dX1_findReply_71 : decode cX1_findReply 71 = .ok (.goto 8, 3) := by decide +kernel
theorem dX1_findReply_74 : decode cX1_findReply 74 = .ok (.aload_n 0, 1) := by decide +kernel
theorem dX1_findReply_75 : decode cX1_findReply 75 = .ok (.iload_n 2, 1) := by decide +kernel
theorem dX1_findReply_76 : decode cX1_findReply 76 = .ok (.invokevirtual 251, 3) := by decide +kernel
theorem dX1_findReply_79 : decode cX1_findReply 79 = .ok (.aload_n 0, 1) := by decide +kernel
theorem dX1_findReply_80 : decode cX1_findReply 80 = .ok (.getfield 48, 3) := by decide +kernel
theorem dX1_findReply_83 : decode cX1_findReply 83 = .ok (.iload_n 2, 1) := by decide +kernel
theorem dX1_findReply_84 : decode cX1_findReply 84 = .ok (.aload_n 0, 1) := by decide +kernel
theorem dX1_findReply_85 : decode cX1_findReply 85 = .ok (.getfield 52, 3) := by decide +kernel
theorem dX1_findReply_88 : decode cX1_findReply 88 = .ok (.invokevirtual 254, 3) := by decide +kernel
theorem dX1_findReply_91 : decode cX1_findReply 91 = .ok (.aload_n 0, 1) := by decide +kernel
theorem dX1_findReply_92 : decode cX1_findReply 92 = .ok (.getfield 94, 3) := by decide +kernel
theorem dX1_findReply_95 : decode cX1_findReply 95 = .ok (.invokevirtual 257, 3) := by decide +kernel
theorem dX1_findReply_98 : decode cX1_findReply 98 = .ok (.iinc 2 1, 3) := by decide +kernel
theorem dX1_findReply_101 : decode cX1_findReply 101 = .ok (.goto (-66), 3) := by decide +kernel
theorem dX1_findReply_104 : decode cX1_findReply 104 = .ok (.return_, 1) := by decide +kernel
theorem dX1_replyToMessage_0 : decode cX1_replyToMessage 0 = .ok (.iconst 0, 1) := by decide +kernel
theorem dX1_replyToMessage_1 : decode cX1_replyToMessage 1 = .ok (.istore_n 2, 1) := by decide +kernel
theorem dX1_replyToMessage_2 : decode cX1_replyToMessage 2 = .ok (.iload_n 2, 1) := by decide +kernel
theorem dX1_replyToMessage_3 : decode cX1_replyToMessage 3 = .ok (.aload_n 0, 1) := by decide +kernel
theorem dX1_replyToMessage_4 : decode cX1_replyToMessage 4 = .ok (.getfield 14, 3) := by decide +kernel
theorem dX1_replyToMessage_7 : decode cX1_replyToMessage 7 = .ok (.invokevirtual 111, 3) := by decide +kernel
theorem dX1_replyToMessage_10 : decode cX1_replyToMessage 10 = .ok (.if_icmp .ge 141, 3) := by decide +kernel
theorem dX1_replyToMessage_13 : decode cX1_replyToMessage 13 = .ok (.iconst 0, 1) := by decide +kernel
theorem dX1_replyToMessage_14 : decode cX1_replyToMessage 14 = .ok (.istore_n 3, 1) := by decide +kernel
theorem dX1_replyToMessage_15 : decode cX1_replyToMessage 15 = .ok (.aload_n 0, 1) := by decide +kernel
theorem dX1_replyToMessage_16 : decode cX1_replyToMessage 16 = .ok (.iload_n 1, 1) := by decide +kernel
theorem dX1_replyToMessage_17 : decode cX1_replyToMessage 17 = .ok (.iload_n 2, 1) := by decide +kernel
theorem dX1_replyToMessage_18 : decode cX1_replyToMessage 18 = .ok (.invokevirtual 210, 3) := by decide +kernel
theorem dX1_replyToMessage_21 : decode cX1_replyToMessage 21 = .ok (.ifCond .eq 124, 3) := by decide +kernel
theorem dX1_replyToMessage_24 : decode cX1_replyToMessage 24 = .ok (.iload_n 3, 1) := by decide +kernel
theorem dX1_replyToMessage_25 : decode cX1_replyToMessage 25 = .ok (.aload_n 0, 1) := by decide +kernel
theorem dX1_replyToMessage_26 : decode cX1_replyToMessage 26 = .ok (.getfield 23, 3) := by decide +kernel
theorem dX1_replyToMessage_29 : decode cX1_replyToMessage 29 = .ok (.invokevirtual 111, 3) := by decide +kernel
theorem dX1_replyToMessage_32 : decode cX1_replyToMessage 32 = .ok (.if_icmp .ge 113, 3) := by decide +kernel
theorem dX1_replyToMessage_35 : decode cX1_replyToMessage 35 = .ok (.aload_n 0, 1) := by decide +kernel
theorem dX1_replyToMessage_36 : decode cX1_replyToMessage 36 = .ok (.getfield 23, 3) := by decide +kernel
theorem dX1_replyToMessage_39 : decode cX1_replyToMessage 39 = .ok (.iload_n 3, 1) := by decide +kernel
theorem dX1_replyToMessage_40 : decode cX1_replyToMessage 40 = .ok (.iconst 0, 1) := by decide +kernel
theorem dX1_replyToMessage_41 : decode cX1_replyToMessage 41 = .ok (.invokevirtual 104, 3) := by decide +kernel
theorem dX1_replyToMessage_44 : decode cX1_replyToMessage 44 = .ok (.iload_n 2, 1) := by decide +kernel
theorem dX1_replyToMessage_45 : decode cX1_replyToMessage 45 = .ok (.if_icmp .ne 53, 3) := by decide +kernel
theorem dX1_replyToMessage_48 : decode cX1_replyToMessage 48 = .ok (.aload_n 0, 1) := by decide +kernel
theorem dX1_replyToMessage_49 : decode cX1_replyToMessage 49 = .ok (.iload_n 3, 1) := by decide +kernel
theorem dX1_replyToMessage_50 : decode cX1_replyToMessage 50 = .ok (.invokevirtual 154, 3) := by decide +kernel
theorem dX1_replyToMessage_53 : decode cX1_replyToMessage 53 = .ok (.ifCond .eq 45, 3) := by decide +kernel
theorem dX1_replyToMessage_56 : decode cX1_replyToMessage 56 = .ok (.aload_n 0, 1) := by decide +kernel
theorem dX1_replyToMessage_57 : decode cX1_replyToMessage 57 = .ok (.getfield 23, 3) := by decide +kernel
theorem dX1_replyToMessage_60 : decode cX1_replyToMessage 60 = .ok (.iload_n 3, 1) := by decide +kernel
theorem dX1_replyToMessage_61 : decode cX1_replyToMessage 61 = .ok (.aload_n 0, 1) := by decide +kernel
theorem dX1_replyToMessage_62 : decode cX1_replyToMessage 62 = .ok (.getfield 48, 3) := by decide +kernel
theorem dX1_replyToMessage_65 : decode cX1_replyToMessage 65 = .ok (.getfield 207, 3) := by decide +kernel
theorem dX1_replyToMessage_68 : decode cX1_replyToMessage 68 = .ok (.iload_n 1, 1) := by decide +kernel
theorem dX1_replyToMessage_69 : decode cX1_replyToMessage 69 = .ok (.invokevirtual 146, 3) := by decide +kernel
theorem dX1_replyToMessage_72 : decode cX1_replyToMessage 72 = .ok (.ifCond .eq 26, 3) := by decide +kernel
theorem dX1_replyToMessage_75 : decode cX1_replyToMessage 75 = .ok (.aload_n 0, 1) := by decide +kernel
theorem dX1_replyToMessage_76 : decode cX1_replyToMessage 76 = .ok (.getfield 23, 3) := by decide +kernel
theorem dX1_replyToMessage_79 : decode cX1_replyToMessage 79 = .ok (.iload_n 3, 1) := by decide +kernel
theorem dX1_replyToMessage_80 : decode cX1_replyToMessage 80 = .ok (.aload_n 0, 1) := by decide +kernel
theorem dX1_replyToMessage_81 : decode cX1_replyToMessage 81 = .ok (.getfield 48, 3) := by decide +kernel
theorem dX1_replyToMessage_84 : decode cX1_replyToMessage 84 = .ok (.getfield 207, 3) := by decide +kernel
theorem dX1_replyToMessage_87 : decode cX1_replyToMessage 87 = .ok (.iload_n 1, 1) := by decide +kernel
theorem dX1_replyToMessage_88 : decode cX1_replyToMessage 88 = .ok (.invokevirtual 150, 3) := by decide +kernel
theorem dX1_replyToMessage_91 : decode cX1_replyToMessage 91 = .ok (.ifCond .le 7, 3) := by decide +kernel
theorem dX1_replyToMessage_94 : decode cX1_replyToMessage 94 = .ok (.iconst 1, 1) := by decide +kernel
theorem dX1_replyToMessage_95 : decode cX1_replyToMessage 95 = .ok (.goto 4, 3) := by decide +kernel
theorem dX1_replyToMessage_98 : decode cX1_replyToMessage 98 = .ok (.iconst 0, 1) := by decide +kernel
theorem dX1_replyToMessage_99 : decode cX1_replyToMessage 99 = .ok (.istore 4, 2) := by decide +kernel
theorem dX1_replyToMessage_101 : decode cX1_replyToMessage 101 = .ok (.iload 4, 2) := by decide +kernel
theorem dX1_replyToMessage_103 : decode cX1_replyToMessage 103 = .ok (.ifCond .eq 36, 3) := by decide +kernel
theorem dX1_replyToMessage_106 : decode cX1_replyToMessage 106 = .ok (.aload_n 0, 1) := by decide +kernel
theorem dX1_replyToMessage_107 : decode cX1_replyToMessage 107 = .ok (.getfield 23, 3) := by decide +kernel
theorem dX1_replyToMessage_110 : decode cX1_replyToMessage 110 = .ok (.iload_n 3, 1) := by decide +kernel
theorem dX1_replyToMessage_111 : decode cX1_replyToMessage 111 = .ok (.iconst 4, 1) := by decide +kernel
theorem dX1_replyToMessage_112 : decode cX1_replyToMessage 112 = .ok (.invokevirtual 104, 3) := by decide +kernel
theorem dX1_replyToMessage_115 : decode cX1_replyToMessage 115 = .ok (.istore 5, 2) := by decide +kernel
theorem dX1_replyToMessage_117 : decode cX1_replyToMessage 117 = .ok (.aload_n 0, 1) := by decide +kernel
theorem dX1_replyToMessage_118 : decode cX1_replyToMessage 118 = .ok (.getfield 52, 3) := by decide +kernel
theorem dX1_replyToMessage_121 : decode cX1_replyToMessage 121 = .ok (.aload_n 0, 1) := by decide +kernel
theorem dX1_replyToMessage_122 : decode cX1_replyToMessage 122 = .ok (.getfield 52, 3) := by decide +kernel
theorem dX1_replyToMessage_125 : decode cX1_replyToMessage 125 = .ok (.aload_n 0, 1) := by decide +kernel
theorem dX1_replyToMessage_126 : decode cX1_replyToMessage 126 = .ok (.getfield 23, 3) := by decide +kernel
theorem dX1_replyToMessage_129 : decode cX1_replyToMessage 129 = .ok (.iload_n 3, 1) := by decide +kernel
theorem dX1_replyToMessage_130 : decode cX1_replyToMessage 130 = .ok (.iconst 1, 1) := by decide +kernel
theorem dX1_replyToMessage_131 : decode cX1_replyToMessage 131 = .ok (.iload 5, 2) := by decide +kernel
theorem dX1_replyToMessage_133 : decode cX1_replyToMessage 133 = .ok (.invokevirtual 263, 3) := by decide +kernel
theorem dX1_replyToMessage_136 : decode cX1_replyToMessage 136 = .ok (.invokevirtual 260, 3) := by decide +kernel
theorem dX1_replyToMessage_139 : decode cX1_replyToMessage 139 = .ok (.iinc 3 1, 3) := by decide +kernel
theorem dX1_replyToMessage_142 : decode cX1_replyToMessage 142 = .ok (.goto (-127), 3) := by decide +kernel
theorem dX1_replyToMessage_145 : decode cX1_replyToMessage 145 = .ok (.iinc 2 1, 3) := by decide +kernel
theorem dX1_replyToMessage_148 : decode cX1_replyToMessage 148 = .ok (.goto (-146), 3) := by decide +kernel
theorem dX1_replyToMessage_151 : decode cX1_replyToMessage 151 = .ok (.return_, 1) := by decide +kernel
theorem dX1_sendReply_0 : decode cX1_sendReply 0 = .ok (.aload_n 0, 1) := by decide +kernel
theorem dX1_sendReply_1 : decode cX1_sendReply 1 = .ok (.getfield 48, 3) := by decide +kernel
theorem dX1_sendReply_4 : decode cX1_sendReply 4 = .ok (.getfield 207, 3) := by decide +kernel
theorem dX1_sendReply_7 : decode cX1_sendReply 7 = .ok (.iload_n 1, 1) := by decide +kernel
theorem dX1_sendReply_8 : decode cX1_sendReply 8 = .ok (.bipush 26, 2) := by decide +kernel
theorem dX1_sendReply_10 : decode cX1_sendReply 10 = .ok (.invokevirtual 104, 3) := by decide +kernel
theorem dX1_sendReply_13 : decode cX1_sendReply 13 = .ok (.istore_n 2, 1) := by decide +kernel
theorem dX1_sendReply_14 : decode cX1_sendReply 14 = .ok (.iload_n 2, 1) := by decide +kernel
theorem dX1_sendReply_15 : decode cX1_sendReply 15 = .ok (.iconst (-1), 1) := by decide +kernel
theorem dX1_sendReply_16 : decode cX1_sendReply 16 = .ok (.if_icmp .eq 84, 3) := by decide +kernel
theorem dX1_sendReply_19 : decode cX1_sendReply 19 = .ok (.aload_n 0, 1) := by decide +kernel
theorem dX1_sendReply_20 : decode cX1_sendReply 20 = .ok (.getfield 52, 3) := by decide +kernel
theorem dX1_sendReply_23 : decode cX1_sendReply 23 = .ok (.iload_n 2, 1) := by decide +kernel
theorem dX1_sendReply_24 : decode cX1_sendReply 24 = .ok (.aload_n 0, 1) := by decide +kernel
theorem dX1_sendReply_25 : decode cX1_sendReply 25 = .ok (.getfield 78, 3) := by decide +kernel
theorem dX1_sendReply_28 : decode cX1_sendReply 28 = .ok (.invokestatic 134, 3) := by decide +kernel
theorem dX1_sendReply_31 : decode cX1_sendReply 31 = .ok (.invokevirtual 267, 3) := by decide +kernel
theorem dX1_sendReply_34 : decode cX1_sendReply 34 = .ok (.aload_n 0, 1) := by decide +kernel
theorem dX1_sendReply_35 : decode cX1_sendReply 35 = .ok (.dup, 1) := by decide +kernel
theorem dX1_sendReply_36 : decode cX1_sendReply 36 = .ok (.getfield 78, 3) := by decide +kernel
theorem dX1_sendReply_39 : decode cX1_sendReply 39 = .ok (.aload_n 0, 1) := by decide +kernel
theorem dX1_sendReply_40 : decode cX1_sendReply 40 = .ok (.getfield 52, 3) := by decide +kernel
theorem dX1_sendReply_43 : decode cX1_sendReply 43 = .ok (.getfield 207, 3) := by decide +kernel
theorem dX1_sendReply_46 : decode cX1_sendReply 46 = .ok (.iload_n 2, 1) := by decide +kernel
theorem dX1_sendReply_47 : decode cX1_sendReply 47 = .ok (.bipush 9, 2) := by decide +kernel
theorem dX1_sendReply_49 : decode cX1_sendReply 49 = .ok (.invokevirtual 104, 3) := by decide +kernel
theorem dX1_sendReply_52 : decode cX1_sendReply 52 = .ok (.i2l, 1) := by decide +kernel
theorem dX1_sendReply_53 : decode cX1_sendReply 53 = .ok (.ladd, 1) := by decide +kernel
theorem dX1_sendReply_54 : decode cX1_sendReply 54 = .ok (.putfield 78, 3) := by decide +kernel
theorem dX1_sendReply_57 : decode cX1_sendReply 57 = .ok (.iconst 0, 1) := by decide +kernel
theorem dX1_sendReply_58 : decode cX1_sendReply 58 = .ok (.istore_n 3, 1) := by decide +kernel
theorem dX1_sendReply_100 : decode cX1_sendReply 100 = .ok (.return_, 1) := by decide +kernel
theorem dX1_keepLatest_0 : decode cX1_keepLatest 0 = .ok (.iconst 0, 1) := by decide +kernel
theorem dX1_keepLatest_1 : decode cX1_keepLatest 1 = .ok (.istore_n 2, 1) := by decide +kernel
theorem dX1_keepLatest_2 : decode cX1_keepLatest 2 = .ok (.iload_n 2, 1) := by decide +kernel
theorem dX1_keepLatest_3 : decode cX1_keepLatest 3 = .ok (.aload_n 0, 1) := by decide +kernel
theorem dX1_keepLatest_4 : decode cX1_keepLatest 4 = .ok (.getfield 14, 3) := by decide +kernel
theorem dX1_keepLatest_7 : decode cX1_keepLatest 7 = .ok (.invokevirtual 111, 3) := by decide +kernel
theorem dX1_keepLatest_10 : decode cX1_keepLatest 10 = .ok (.if_icmp .ge 68, 3) := by decide +kernel
theorem dX1_keepLatest_13 : decode cX1_keepLatest 13 = .ok (.iconst 0, 1) := by decide +kernel
theorem dX1_keepLatest_14 : decode cX1_keepLatest 14 = .ok (.istore_n 3, 1) := by decide +kernel
theorem dX1_keepLatest_15 : decode cX1_keepLatest 15 = .ok (.iconst 0, 1) := by decide +kernel
theorem dX1_keepLatest_16 : decode cX1_keepLatest 16 = .ok (.istore 4, 2) := by decide +kernel
theorem dX1_keepLatest_18 : decode cX1_keepLatest 18 = .ok (.iload_n 3, 1) := by decide +kernel
theorem dX1_keepLatest_19 : decode cX1_keepLatest 19 = .ok (.ifCond .ne 53, 3) := by decide +kernel
theorem dX1_keepLatest_22 : decode cX1_keepLatest 22 = .ok (.iload 4, 2) := by decide +kernel
theorem dX1_keepLatest_24 : decode cX1_keepLatest 24 = .ok (.bipush 6, 2) := by decide +kernel
theorem dX1_keepLatest_26 : decode cX1_keepLatest 26 = .ok (.if_icmp .ge 46, 3) := by decide +kernel
theorem dX1_keepLatest_29 : decode cX1_keepLatest 29 = .ok (.aload_n 0, 1) := by decide +kernel
theorem dX1_keepLatest_30 : decode cX1_keepLatest 30 = .ok (.getfield 48, 3) := by decide +kernel
theorem dX1_keepLatest_33 : decode cX1_keepLatest 33 = .ok (.getfield 207, 3) := by decide +kernel
theorem dX1_keepLatest_36 : decode cX1_keepLatest 36 = .ok (.iload_n 1, 1) := by decide +kernel
theorem dX1_keepLatest_37 : decode cX1_keepLatest 37 = .ok (.bipush 18, 2) := by decide +kernel
theorem dX1_keepLatest_39 : decode cX1_keepLatest 39 = .ok (.iload 4, 2) := by decide +kernel
theorem dX1_keepLatest_41 : decode cX1_keepLatest 41 = .ok (.iadd, 1) := by decide +kernel
theorem dX1_keepLatest_42 : decode cX1_keepLatest 42 = .ok (.invokevirtual 104, 3) := by decide +kernel
theorem dX1_keepLatest_45 : decode cX1_keepLatest 45 = .ok (.istore 5, 2) := by decide +kernel
theorem dX1_keepLatest_47 : decode cX1_keepLatest 47 = .ok (.aload_n 0, 1) := by decide +kernel
theorem dX1_keepLatest_48 : decode cX1_keepLatest 48 = .ok (.iload 5, 2) := by decide +kernel
theorem dX1_keepLatest_50 : decode cX1_keepLatest 50 = .ok (.iload_n 2, 1) := by decide +kernel
theorem dX1_keepLatest_51 : decode cX1_keepLatest 51 = .ok (.invokevirtual 210, 3) := by decide +kernel
theorem dX1_keepLatest_54 : decode cX1_keepLatest 54 = .ok (.istore_n 3, 1) := by decide +kernel
theorem dX1_keepLatest_55 : decode cX1_keepLatest 55 = .ok (.iload_n 3, 1) := by decide +kernel
theorem dX1_keepLatest_56 : decode cX1_keepLatest 56 = .ok (.ifCond .eq 10, 3) := by decide +kernel
theorem dX1_keepLatest_59 : decode cX1_keepLatest 59 = .ok (.aload_n 0, 1) := by decide +kernel
theorem dX1_keepLatest_60 : decode cX1_keepLatest 60 = .ok (.iload 5, 2) := by decide +kernel
theorem dX1_keepLatest_62 : decode cX1_keepLatest 62 = .ok (.iload_n 2, 1) := by decide +kernel
theorem dX1_keepLatest_63 : decode cX1_keepLatest 63 = .ok (.invokevirtual 273, 3) := by decide +kernel
theorem dX1_keepLatest_66 : decode cX1_keepLatest 66 = .ok (.iinc 4 1, 3) := by decide +kernel
theorem dX1_keepLatest_69 : decode cX1_keepLatest 69 = .ok (.goto (-51), 3) := by decide +kernel
theorem dX1_keepLatest_72 : decode cX1_keepLatest 72 = .ok (.iinc 2 1, 3) := by decide +kernel
theorem dX1_keepLatest_75 : decode cX1_keepLatest 75 = .ok (.goto (-73), 3) := by decide +kernel
theorem dX1_keepLatest_78 : decode cX1_keepLatest 78 = .ok (.return_, 1) := by decide +kernel
theorem dX1_probeComes_0 : decode cX1_probeComes 0 = .ok (.iconst 0, 1) := by decide +kernel
theorem dX1_probeComes_1 : decode cX1_probeComes 1 = .ok (.istore_n 3, 1) := by decide +kernel
theorem dX1_probeComes_2 : decode cX1_probeComes 2 = .ok (.iload_n 3, 1) := by decide +kernel
theorem dX1_probeComes_3 : decode cX1_probeComes 3 = .ok (.aload_n 0, 1) := by decide +kernel
theorem dX1_probeComes_4 : decode cX1_probeComes 4 = .ok (.getfield 23, 3) := by decide +kernel
theorem dX1_probeComes_7 : decode cX1_probeComes 7 = .ok (.invokevirtual 111, 3) := by decide +kernel
theorem dX1_probeComes_10 : decode cX1_probeComes 10 = .ok (.if_icmp .ge 151, 3) := by decide +kernel
theorem dX1_probeComes_13 : decode cX1_probeComes 13 = .ok (.aload_n 0, 1) := by decide +kernel
theorem dX1_probeComes_14 : decode cX1_probeComes 14 = .ok (.getfield 23, 3) := by decide +kernel
theorem dX1_probeComes_17 : decode cX1_probeComes 17 = .ok (.iload_n 3, 1) := by decide +kernel
theorem dX1_probeComes_18 : decode cX1_probeComes 18 = .ok (.iconst 0, 1) := by decide +kernel
