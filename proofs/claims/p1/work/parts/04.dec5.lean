theorem dX7_expires_7 : decode cX7_expires 7 = .ok (.iload_n 1, 1) := by decide +kernel
theorem dX7_expires_8 : decode cX7_expires 8 = .ok (.invokestatic 78, 3) := by decide +kernel
theorem dX7_expires_11 : decode cX7_expires 11 = .ok (.iconst 3, 1) := by decide +kernel
theorem dX7_expires_12 : decode cX7_expires 12 = .ok (.iadd, 1) := by decide +kernel
theorem dX7_expires_13 : decode cX7_expires 13 = .ok (.iaload, 1) := by decide +kernel
theorem dX7_expires_14 : decode cX7_expires 14 = .ok (.if_icmp .ge 65, 3) := by decide +kernel
theorem dX7_expires_17 : decode cX7_expires 17 = .ok (.iload_n 1, 1) := by decide +kernel
theorem dX7_expires_18 : decode cX7_expires 18 = .ok (.iload_n 2, 1) := by decide +kernel
theorem dX7_expires_19 : decode cX7_expires 19 = .ok (.invokestatic 227, 3) := by decide +kernel
theorem dX7_expires_22 : decode cX7_expires 22 = .ok (.istore_n 3, 1) := by decide +kernel
theorem dX7_expires_23 : decode cX7_expires 23 = .ok (.aload_n 0, 1) := by decide +kernel
theorem dX7_expires_24 : decode cX7_expires 24 = .ok (.getfield 17, 3) := by decide +kernel
theorem dX7_expires_27 : decode cX7_expires 27 = .ok (.iload_n 3, 1) := by decide +kernel
theorem dX7_expires_28 : decode cX7_expires 28 = .ok (.bipush 6, 2) := by decide +kernel
theorem dX7_expires_30 : decode cX7_expires 30 = .ok (.iadd, 1) := by decide +kernel
theorem dX7_expires_31 : decode cX7_expires 31 = .ok (.iaload, 1) := by decide +kernel
theorem dX7_expires_32 : decode cX7_expires 32 = .ok (.aload_n 0, 1) := by decide +kernel
theorem dX7_expires_33 : decode cX7_expires 33 = .ok (.getfield 17, 3) := by decide +kernel
theorem dX7_expires_36 : decode cX7_expires 36 = .ok (.iload_n 3, 1) := by decide +kernel
theorem dX7_expires_37 : decode cX7_expires 37 = .ok (.iconst 5, 1) := by decide +kernel
theorem dX7_expires_38 : decode cX7_expires 38 = .ok (.iadd, 1) := by decide +kernel
theorem dX7_expires_39 : decode cX7_expires 39 = .ok (.iaload, 1) := by decide +kernel
theorem dX7_expires_40 : decode cX7_expires 40 = .ok (.iadd, 1) := by decide +kernel
theorem dX7_expires_41 : decode cX7_expires 41 = .ok (.aload_n 0, 1) := by decide +kernel
theorem dX7_expires_42 : decode cX7_expires 42 = .ok (.getfield 17, 3) := by decide +kernel
theorem dX7_expires_45 : decode cX7_expires 45 = .ok (.iconst 0, 1) := by decide +kernel
theorem dX7_expires_46 : decode cX7_expires 46 = .ok (.iaload, 1) := by decide +kernel
theorem dX7_expires_47 : decode cX7_expires 47 = .ok (.if_icmp .gt 26, 3) := by decide +kernel
theorem dX7_expires_50 : decode cX7_expires 50 = .ok (.aload_n 0, 1) := by decide +kernel
theorem dX7_expires_51 : decode cX7_expires 51 = .ok (.iconst 4, 1) := by decide +kernel
theorem dX7_expires_52 : decode cX7_expires 52 = .ok (.iload_n 1, 1) := by decide +kernel
theorem dX7_expires_53 : decode cX7_expires 53 = .ok (.aload_n 0, 1) := by decide +kernel
theorem dX7_expires_54 : decode cX7_expires 54 = .ok (.getfield 17, 3) := by decide +kernel
theorem dX7_expires_57 : decode cX7_expires 57 = .ok (.iload_n 3, 1) := by decide +kernel
theorem dX7_expires_58 : decode cX7_expires 58 = .ok (.iconst 2, 1) := by decide +kernel
theorem dX7_expires_59 : decode cX7_expires 59 = .ok (.iadd, 1) := by decide +kernel
theorem dX7_expires_60 : decode cX7_expires 60 = .ok (.iaload, 1) := by decide +kernel
theorem dX7_expires_61 : decode cX7_expires 61 = .ok (.invokevirtual 216, 3) := by decide +kernel
theorem dX7_expires_64 : decode cX7_expires 64 = .ok (.aload_n 0, 1) := by decide +kernel
theorem dX7_expires_65 : decode cX7_expires 65 = .ok (.iload_n 1, 1) := by decide +kernel
theorem dX7_expires_66 : decode cX7_expires 66 = .ok (.iload_n 2, 1) := by decide +kernel
theorem dX7_expires_67 : decode cX7_expires 67 = .ok (.invokevirtual 237, 3) := by decide +kernel
theorem dX7_expires_70 : decode cX7_expires 70 = .ok (.goto 6, 3) := by decide +kernel
theorem dX7_expires_73 : decode cX7_expires 73 = .ok (.iinc 2 1, 3) := by decide +kernel
theorem dX7_expires_76 : decode cX7_expires 76 = .ok (.goto (-74), 3) := by decide +kernel
theorem dX7_expires_79 : decode cX7_expires 79 = .ok (.return_, 1) := by decide +kernel
theorem dX7_acts_0 : decode cX7_acts 0 = .ok (.iload_n 1, 1) := by decide +kernel
theorem dX7_acts_1 : decode cX7_acts 1 = .ok (.invokestatic 74, 3) := by decide +kernel
theorem dX7_acts_4 : decode cX7_acts 4 = .ok (.istore_n 2, 1) := by decide +kernel
theorem dX7_acts_5 : decode cX7_acts 5 = .ok (.aload_n 0, 1) := by decide +kernel
theorem dX7_acts_6 : decode cX7_acts 6 = .ok (.getfield 17, 3) := by decide +kernel
theorem dX7_acts_9 : decode cX7_acts 9 = .ok (.aload_n 0, 1) := by decide +kernel
theorem dX7_acts_10 : decode cX7_acts 10 = .ok (.getfield 17, 3) := by decide +kernel
theorem dX7_acts_13 : decode cX7_acts 13 = .ok (.iload_n 2, 1) := by decide +kernel
theorem dX7_acts_14 : decode cX7_acts 14 = .ok (.iconst 0, 1) := by decide +kernel
theorem dX7_acts_15 : decode cX7_acts 15 = .ok (.iadd, 1) := by decide +kernel
theorem dX7_acts_16 : decode cX7_acts 16 = .ok (.iaload, 1) := by decide +kernel
theorem dX7_acts_17 : decode cX7_acts 17 = .ok (.invokestatic 78, 3) := by decide +kernel
theorem dX7_acts_20 : decode cX7_acts 20 = .ok (.iconst 0, 1) := by decide +kernel
theorem dX7_acts_21 : decode cX7_acts 21 = .ok (.iadd, 1) := by decide +kernel
theorem dX7_acts_22 : decode cX7_acts 22 = .ok (.iaload, 1) := by decide +kernel
theorem dX7_acts_23 : decode cX7_acts 23 = .ok (.ifCond .eq 34, 3) := by decide +kernel
theorem dX7_acts_26 : decode cX7_acts 26 = .ok (.aload_n 0, 1) := by decide +kernel
theorem dX7_acts_27 : decode cX7_acts 27 = .ok (.getfield 17, 3) := by decide +kernel
theorem dX7_acts_30 : decode cX7_acts 30 = .ok (.iload_n 2, 1) := by decide +kernel
theorem dX7_acts_31 : decode cX7_acts 31 = .ok (.bipush 8, 2) := by decide +kernel
theorem dX7_acts_33 : decode cX7_acts 33 = .ok (.iadd, 1) := by decide +kernel
theorem dX7_acts_34 : decode cX7_acts 34 = .ok (.iaload, 1) := by decide +kernel
theorem dX7_acts_35 : decode cX7_acts 35 = .ok (.iconst (-1), 1) := by decide +kernel
theorem dX7_acts_36 : decode cX7_acts 36 = .ok (.if_icmp .eq 21, 3) := by decide +kernel
theorem dX7_acts_39 : decode cX7_acts 39 = .ok (.aload_n 0, 1) := by decide +kernel
theorem dX7_acts_40 : decode cX7_acts 40 = .ok (.getfield 17, 3) := by decide +kernel
theorem dX7_acts_43 : decode cX7_acts 43 = .ok (.iload_n 2, 1) := by decide +kernel
theorem dX7_acts_44 : decode cX7_acts 44 = .ok (.bipush 8, 2) := by decide +kernel
theorem dX7_acts_46 : decode cX7_acts 46 = .ok (.iadd, 1) := by decide +kernel
theorem dX7_acts_47 : decode cX7_acts 47 = .ok (.iaload, 1) := by decide +kernel
theorem dX7_acts_48 : decode cX7_acts 48 = .ok (.aload_n 0, 1) := by decide +kernel
theorem dX7_acts_49 : decode cX7_acts 49 = .ok (.getfield 17, 3) := by decide +kernel
theorem dX7_acts_52 : decode cX7_acts 52 = .ok (.iconst 0, 1) := by decide +kernel
theorem dX7_acts_53 : decode cX7_acts 53 = .ok (.iaload, 1) := by decide +kernel
theorem dX7_acts_54 : decode cX7_acts 54 = .ok (.if_icmp .le 4, 3) := by decide +kernel
theorem dX7_acts_57 : decode cX7_acts 57 = .ok (.return_, 1) := by decide +kernel
theorem dX7_acts_58 : decode cX7_acts 58 = .ok (.aload_n 0, 1) := by decide +kernel
theorem dX7_acts_59 : decode cX7_acts 59 = .ok (.getfield 17, 3) := by decide +kernel
theorem dX7_acts_62 : decode cX7_acts 62 = .ok (.iload_n 2, 1) := by decide +kernel
theorem dX7_acts_63 : decode cX7_acts 63 = .ok (.bipush 6, 2) := by decide +kernel
theorem dX7_acts_65 : decode cX7_acts 65 = .ok (.iadd, 1) := by decide +kernel
theorem dX7_acts_66 : decode cX7_acts 66 = .ok (.iaload, 1) := by decide +kernel
theorem dX7_acts_67 : decode cX7_acts 67 = .ok (.ifCond .ne 56, 3) := by decide +kernel
theorem dX7_acts_70 : decode cX7_acts 70 = .ok (.aload_n 0, 1) := by decide +kernel
theorem dX7_acts_71 : decode cX7_acts 71 = .ok (.getfield 17, 3) := by decide +kernel
theorem dX7_acts_74 : decode cX7_acts 74 = .ok (.iload_n 2, 1) := by decide +kernel
theorem dX7_acts_75 : decode cX7_acts 75 = .ok (.bipush 7, 2) := by decide +kernel
theorem dX7_acts_77 : decode cX7_acts 77 = .ok (.iadd, 1) := by decide +kernel
theorem dX7_acts_78 : decode cX7_acts 78 = .ok (.iaload, 1) := by decide +kernel
theorem dX7_acts_79 : decode cX7_acts 79 = .ok (.iconst 3, 1) := by decide +kernel
theorem dX7_acts_80 : decode cX7_acts 80 = .ok (.if_icmp .ge 43, 3) := by decide +kernel
theorem dX7_acts_83 : decode cX7_acts 83 = .ok (.aload_n 0, 1) := by decide +kernel
theorem dX7_acts_84 : decode cX7_acts 84 = .ok (.iload_n 1, 1) := by decide +kernel
theorem dX7_acts_85 : decode cX7_acts 85 = .ok (.iconst 0, 1) := by decide +kernel
theorem dX7_acts_86 : decode cX7_acts 86 = .ok (.iconst 0, 1) := by decide +kernel
theorem dX7_acts_87 : decode cX7_acts 87 = .ok (.invokevirtual 246, 3) := by decide +kernel
theorem dX7_acts_90 : decode cX7_acts 90 = .ok (.aload_n 0, 1) := by decide +kernel
theorem dX7_acts_91 : decode cX7_acts 91 = .ok (.getfield 17, 3) := by decide +kernel
theorem dX7_acts_94 : decode cX7_acts 94 = .ok (.iload_n 2, 1) := by decide +kernel
theorem dX7_acts_95 : decode cX7_acts 95 = .ok (.bipush 7, 2) := by decide +kernel
theorem dX7_acts_97 : decode cX7_acts 97 = .ok (.iadd, 1) := by decide +kernel
theorem dX7_acts_98 : decode cX7_acts 98 = .ok (.dup2, 1) := by decide +kernel
theorem dX7_acts_99 : decode cX7_acts 99 = .ok (.iaload, 1) := by decide +kernel
theorem dX7_acts_100 : decode cX7_acts 100 = .ok (.iconst 1, 1) := by decide +kernel
theorem dX7_acts_101 : decode cX7_acts 101 = .ok (.iadd, 1) := by decide +kernel
theorem dX7_acts_102 : decode cX7_acts 102 = .ok (.iastore, 1) := by decide +kernel
theorem dX7_acts_103 : decode cX7_acts 103 = .ok (.aload_n 0, 1) := by decide +kernel
theorem dX7_acts_104 : decode cX7_acts 104 = .ok (.getfield 17, 3) := by decide +kernel
theorem dX7_acts_107 : decode cX7_acts 107 = .ok (.iload_n 2, 1) := by decide +kernel
theorem dX7_acts_108 : decode cX7_acts 108 = .ok (.bipush 8, 2) := by decide +kernel
theorem dX7_acts_110 : decode cX7_acts 110 = .ok (.iadd, 1) := by decide +kernel
theorem dX7_acts_111 : decode cX7_acts 111 = .ok (.aload_n 0, 1) := by decide +kernel
theorem dX7_acts_112 : decode cX7_acts 112 = .ok (.getfield 17, 3) := by decide +kernel
theorem dX7_acts_115 : decode cX7_acts 115 = .ok (.iconst 0, 1) := by decide +kernel
theorem dX7_acts_116 : decode cX7_acts 116 = .ok (.iaload, 1) := by decide +kernel
theorem dX7_acts_117 : decode cX7_acts 117 = .ok (.iconst 2, 1) := by decide +kernel
theorem dX7_acts_118 : decode cX7_acts 118 = .ok (.iadd, 1) := by decide +kernel
theorem dX7_acts_119 : decode cX7_acts 119 = .ok (.iastore, 1) := by decide +kernel
theorem dX7_acts_120 : decode cX7_acts 120 = .ok (.goto 120, 3) := by decide +kernel
theorem dX7_acts_123 : decode cX7_acts 123 = .ok (.aload_n 0, 1) := by decide +kernel
theorem dX7_acts_124 : decode cX7_acts 124 = .ok (.getfield 17, 3) := by decide +kernel
theorem dX7_acts_127 : decode cX7_acts 127 = .ok (.iload_n 2, 1) := by decide +kernel
theorem dX7_acts_128 : decode cX7_acts 128 = .ok (.bipush 6, 2) := by decide +kernel
theorem dX7_acts_130 : decode cX7_acts 130 = .ok (.iadd, 1) := by decide +kernel
theorem dX7_acts_131 : decode cX7_acts 131 = .ok (.iaload, 1) := by decide +kernel
theorem dX7_acts_132 : decode cX7_acts 132 = .ok (.ifCond .ne 47, 3) := by decide +kernel
theorem dX7_acts_135 : decode cX7_acts 135 = .ok (.aload_n 0, 1) := by decide +kernel
theorem dX7_acts_136 : decode cX7_acts 136 = .ok (.iload_n 1, 1) := by decide +kernel
theorem dX7_acts_137 : decode cX7_acts 137 = .ok (.iconst 1, 1) := by decide +kernel
theorem dX7_acts_138 : decode cX7_acts 138 = .ok (.aload_n 0, 1) := by decide +kernel
theorem dX7_acts_139 : decode cX7_acts 139 = .ok (.getfield 17, 3) := by decide +kernel
theorem dX7_acts_142 : decode cX7_acts 142 = .ok (.iload_n 2, 1) := by decide +kernel
theorem dX7_acts_143 : decode cX7_acts 143 = .ok (.iconst 5, 1) := by decide +kernel
theorem dX7_acts_144 : decode cX7_acts 144 = .ok (.iadd, 1) := by decide +kernel
theorem dX7_acts_145 : decode cX7_acts 145 = .ok (.iaload, 1) := by decide +kernel
theorem dX7_acts_146 : decode cX7_acts 146 = .ok (.invokevirtual 246, 3) := by decide +kernel
theorem dX7_acts_149 : decode cX7_acts 149 = .ok (.aload_n 0, 1) := by decide +kernel
theorem dX7_acts_150 : decode cX7_acts 150 = .ok (.getfield 17, 3) := by decide +kernel
theorem dX7_acts_153 : decode cX7_acts 153 = .ok (.iload_n 2, 1) := by decide +kernel
theorem dX7_acts_154 : decode cX7_acts 154 = .ok (.bipush 6, 2) := by decide +kernel
theorem dX7_acts_156 : decode cX7_acts 156 = .ok (.iadd, 1) := by decide +kernel
theorem dX7_acts_157 : decode cX7_acts 157 = .ok (.iconst 1, 1) := by decide +kernel
theorem dX7_acts_158 : decode cX7_acts 158 = .ok (.iastore, 1) := by decide +kernel
theorem dX7_acts_159 : decode cX7_acts 159 = .ok (.aload_n 0, 1) := by decide +kernel
theorem dX7_acts_160 : decode cX7_acts 160 = .ok (.getfield 17, 3) := by decide +kernel
theorem dX7_acts_163 : decode cX7_acts 163 = .ok (.iload_n 2, 1) := by decide +kernel
theorem dX7_acts_164 : decode cX7_acts 164 = .ok (.bipush 8, 2) := by decide +kernel
theorem dX7_acts_166 : decode cX7_acts 166 = .ok (.iadd, 1) := by decide +kernel
theorem dX7_acts_167 : decode cX7_acts 167 = .ok (.aload_n 0, 1) := by decide +kernel
theorem dX7_acts_168 : decode cX7_acts 168 = .ok (.getfield 17, 3) := by decide +kernel
theorem dX7_acts_171 : decode cX7_acts 171 = .ok (.iconst 0, 1) := by decide +kernel
theorem dX7_acts_172 : decode cX7_acts 172 = .ok (.iaload, 1) := by decide +kernel
theorem dX7_acts_173 : decode cX7_acts 173 = .ok (.iconst 4, 1) := by decide +kernel
theorem dX7_acts_174 : decode cX7_acts 174 = .ok (.iadd, 1) := by decide +kernel
theorem dX7_acts_175 : decode cX7_acts 175 = .ok (.iastore, 1) := by decide +kernel
theorem dX7_acts_176 : decode cX7_acts 176 = .ok (.goto 64, 3) := by decide +kernel
theorem dX7_acts_179 : decode cX7_acts 179 = .ok (.aload_n 0, 1) := by decide +kernel
theorem dX7_acts_180 : decode cX7_acts 180 = .ok (.getfield 17, 3) := by decide +kernel
theorem dX7_acts_183 : decode cX7_acts 183 = .ok (.iload_n 2, 1) := by decide +kernel
theorem dX7_acts_184 : decode cX7_acts 184 = .ok (.bipush 6, 2) := by decide +kernel
theorem dX7_acts_186 : decode cX7_acts 186 = .ok (.iadd, 1) := by decide +kernel
theorem dX7_acts_187 : decode cX7_acts 187 = .ok (.iaload, 1) := by decide +kernel
theorem dX7_acts_188 : decode cX7_acts 188 = .ok (.iconst 1, 1) := by decide +kernel
theorem dX7_acts_189 : decode cX7_acts 189 = .ok (.if_icmp .ne 51, 3) := by decide +kernel
theorem dX7_acts_192 : decode cX7_acts 192 = .ok (.aload_n 0, 1) := by decide +kernel
theorem dX7_acts_193 : decode cX7_acts 193 = .ok (.iload_n 1, 1) := by decide +kernel
theorem dX7_acts_194 : decode cX7_acts 194 = .ok (.iconst 1, 1) := by decide +kernel
theorem dX7_acts_195 : decode cX7_acts 195 = .ok (.aload_n 0, 1) := by decide +kernel
theorem dX7_acts_196 : decode cX7_acts 196 = .ok (.getfield 17, 3) := by decide +kernel
theorem dX7_acts_199 : decode cX7_acts 199 = .ok (.iload_n 2, 1) := by decide +kernel
theorem dX7_acts_200 : decode cX7_acts 200 = .ok (.iconst 5, 1) := by decide +kernel
theorem dX7_acts_201 : decode cX7_acts 201 = .ok (.iadd, 1) := by decide +kernel
theorem dX7_acts_202 : decode cX7_acts 202 = .ok (.iaload, 1) := by decide +kernel
theorem dX7_acts_203 : decode cX7_acts 203 = .ok (.invokevirtual 246, 3) := by decide +kernel
theorem dX7_acts_206 : decode cX7_acts 206 = .ok (.aload_n 0, 1) := by decide +kernel
theorem dX7_acts_207 : decode cX7_acts 207 = .ok (.getfield 17, 3) := by decide +kernel
theorem dX7_acts_210 : decode cX7_acts 210 = .ok (.iload_n 2, 1) := by decide +kernel
theorem dX7_acts_211 : decode cX7_acts 211 = .ok (.bipush 6, 2) := by decide +kernel
theorem dX7_acts_213 : decode cX7_acts 213 = .ok (.iadd, 1) := by decide +kernel
theorem dX7_acts_214 : decode cX7_acts 214 = .ok (.iconst 2, 1) := by decide +kernel
theorem dX7_acts_215 : decode cX7_acts 215 = .ok (.iastore, 1) := by decide +kernel
theorem dX7_acts_216 : decode cX7_acts 216 = .ok (.aload_n 0, 1) := by decide +kernel
theorem dX7_acts_217 : decode cX7_acts 217 = .ok (.getfield 17, 3) := by decide +kernel
theorem dX7_acts_220 : decode cX7_acts 220 = .ok (.iload_n 2, 1) := by decide +kernel
theorem dX7_acts_221 : decode cX7_acts 221 = .ok (.bipush 8, 2) := by decide +kernel
theorem dX7_acts_223 : decode cX7_acts 223 = .ok (.iadd, 1) := by decide +kernel
theorem dX7_acts_224 : decode cX7_acts 224 = .ok (.iconst (-1), 1) := by decide +kernel
theorem dX7_acts_225 : decode cX7_acts 225 = .ok (.iastore, 1) := by decide +kernel
theorem dX7_acts_226 : decode cX7_acts 226 = .ok (.aload_n 0, 1) := by decide +kernel
theorem dX7_acts_227 : decode cX7_acts 227 = .ok (.iconst 3, 1) := by decide +kernel
theorem dX7_acts_228 : decode cX7_acts 228 = .ok (.iload_n 1, 1) := by decide +kernel
theorem dX7_acts_229 : decode cX7_acts 229 = .ok (.aload_n 0, 1) := by decide +kernel
theorem dX7_acts_230 : decode cX7_acts 230 = .ok (.getfield 17, 3) := by decide +kernel
theorem dX7_acts_233 : decode cX7_acts 233 = .ok (.iload_n 2, 1) := by decide +kernel
theorem dX7_acts_234 : decode cX7_acts 234 = .ok (.iconst 3, 1) := by decide +kernel
theorem dX7_acts_235 : decode cX7_acts 235 = .ok (.iadd, 1) := by decide +kernel
theorem dX7_acts_236 : decode cX7_acts 236 = .ok (.iaload, 1) := by decide +kernel
theorem dX7_acts_237 : decode cX7_acts 237 = .ok (.invokevirtual 216, 3) := by decide +kernel
theorem dX7_acts_240 : decode cX7_acts 240 = .ok (.return_, 1) := by decide +kernel
theorem dX7_isOld_0 : decode cX7_isOld 0 = .ok (.aload_n 0, 1) := by decide +kernel
theorem dX7_isOld_1 : decode cX7_isOld 1 = .ok (.getfield 17, 3) := by decide +kernel
theorem dX7_isOld_4 : decode cX7_isOld 4 = .ok (.iload_n 1, 1) := by decide +kernel
theorem dX7_isOld_5 : decode cX7_isOld 5 = .ok (.bipush 7, 2) := by decide +kernel
theorem dX7_isOld_7 : decode cX7_isOld 7 = .ok (.iadd, 1) := by decide +kernel
theorem dX7_isOld_8 : decode cX7_isOld 8 = .ok (.iaload, 1) := by decide +kernel
theorem dX7_isOld_9 : decode cX7_isOld 9 = .ok (.iconst 4, 1) := by decide +kernel
theorem dX7_isOld_10 : decode cX7_isOld 10 = .ok (.if_icmp .ge 52, 3) := by decide +kernel
theorem dX7_isOld_13 : decode cX7_isOld 13 = .ok (.aload_n 0, 1) := by decide +kernel
theorem dX7_isOld_14 : decode cX7_isOld 14 = .ok (.getfield 17, 3) := by decide +kernel
theorem dX7_isOld_17 : decode cX7_isOld 17 = .ok (.iconst 0, 1) := by decide +kernel
theorem dX7_isOld_18 : decode cX7_isOld 18 = .ok (.iaload, 1) := by decide +kernel
theorem dX7_isOld_19 : decode cX7_isOld 19 = .ok (.aload_n 0, 1) := by decide +kernel
theorem dX7_isOld_20 : decode cX7_isOld 20 = .ok (.getfield 17, 3) := by decide +kernel
theorem dX7_isOld_23 : decode cX7_isOld 23 = .ok (.iload_n 1, 1) := by decide +kernel
theorem dX7_isOld_24 : decode cX7_isOld 24 = .ok (.bipush 6, 2) := by decide +kernel
theorem dX7_isOld_26 : decode cX7_isOld 26 = .ok (.iadd, 1) := by decide +kernel
theorem dX7_isOld_27 : decode cX7_isOld 27 = .ok (.iaload, 1) := by decide +kernel
theorem dX7_isOld_28 : decode cX7_isOld 28 = .ok (.aload_n 0, 1) := by decide +kernel
theorem dX7_isOld_29 : decode cX7_isOld 29 = .ok (.getfield 17, 3) := by decide +kernel
theorem dX7_isOld_32 : decode cX7_isOld 32 = .ok (.iload_n 1, 1) := by decide +kernel
theorem dX7_isOld_33 : decode cX7_isOld 33 = .ok (.iconst 5, 1) := by decide +kernel
theorem dX7_isOld_34 : decode cX7_isOld 34 = .ok (.iadd, 1) := by decide +kernel
theorem dX7_isOld_35 : decode cX7_isOld 35 = .ok (.iaload, 1) := by decide +kernel
theorem dX7_isOld_36 : decode cX7_isOld 36 = .ok (.bipush 80, 2) := by decide +kernel
theorem dX7_isOld_38 : decode cX7_isOld 38 = .ok (.iconst 5, 1) := by decide +kernel
theorem dX7_isOld_39 : decode cX7_isOld 39 = .ok (.aload_n 0, 1) := by decide +kernel
theorem dX7_isOld_40 : decode cX7_isOld 40 = .ok (.getfield 17, 3) := by decide +kernel
theorem dX7_isOld_43 : decode cX7_isOld 43 = .ok (.iload_n 1, 1) := by decide +kernel
theorem dX7_isOld_44 : decode cX7_isOld 44 = .ok (.bipush 7, 2) := by decide +kernel
theorem dX7_isOld_46 : decode cX7_isOld 46 = .ok (.iadd, 1) := by decide +kernel
theorem dX7_isOld_47 : decode cX7_isOld 47 = .ok (.iaload, 1) := by decide +kernel
theorem dX7_isOld_48 : decode cX7_isOld 48 = .ok (.imul, 1) := by decide +kernel
theorem dX7_isOld_49 : decode cX7_isOld 49 = .ok (.iadd, 1) := by decide +kernel
theorem dX7_isOld_50 : decode cX7_isOld 50 = .ok (.imul, 1) := by decide +kernel
theorem dX7_isOld_51 : decode cX7_isOld 51 = .ok (.bipush 100, 2) := by decide +kernel
theorem dX7_isOld_53 : decode cX7_isOld 53 = .ok (.idiv, 1) := by decide +kernel
theorem dX7_isOld_54 : decode cX7_isOld 54 = .ok (.iadd, 1) := by decide +kernel
theorem dX7_isOld_55 : decode cX7_isOld 55 = .ok (.if_icmp .lt 7, 3) := by decide +kernel
theorem dX7_isOld_58 : decode cX7_isOld 58 = .ok (.iconst 1, 1) := by decide +kernel
theorem dX7_isOld_59 : decode cX7_isOld 59 = .ok (.goto 4, 3) := by decide +kernel
theorem dX7_isOld_62 : decode cX7_isOld 62 = .ok (.iconst 0, 1) := by decide +kernel
theorem dX7_isOld_63 : decode cX7_isOld 63 = .ok (.ireturn, 1) := by decide +kernel
theorem dX7_asks_0 : decode cX7_asks 0 = .ok (.iload_n 1, 1) := by decide +kernel
theorem dX7_asks_1 : decode cX7_asks 1 = .ok (.iload_n 2, 1) := by decide +kernel
theorem dX7_asks_2 : decode cX7_asks 2 = .ok (.invokestatic 240, 3) := by decide +kernel
theorem dX7_asks_5 : decode cX7_asks 5 = .ok (.istore_n 3, 1) := by decide +kernel
theorem dX7_asks_6 : decode cX7_asks 6 = .ok (.aload_n 0, 1) := by decide +kernel
theorem dX7_asks_7 : decode cX7_asks 7 = .ok (.getfield 17, 3) := by decide +kernel
theorem dX7_asks_10 : decode cX7_asks 10 = .ok (.iload_n 3, 1) := by decide +kernel
theorem dX7_asks_11 : decode cX7_asks 11 = .ok (.iconst 0, 1) := by decide +kernel
theorem dX7_asks_12 : decode cX7_asks 12 = .ok (.iastore, 1) := by decide +kernel
theorem dX7_asks_13 : decode cX7_asks 13 = .ok (.iconst 0, 1) := by decide +kernel
theorem dX7_asks_14 : decode cX7_asks 14 = .ok (.istore 4, 2) := by decide +kernel
theorem dX7_asks_16 : decode cX7_asks 16 = .ok (.iload 4, 2) := by decide +kernel
theorem dX7_asks_18 : decode cX7_asks 18 = .ok (.aload_n 0, 1) := by decide +kernel
theorem dX7_asks_19 : decode cX7_asks 19 = .ok (.getfield 17, 3) := by decide +kernel
theorem dX7_asks_22 : decode cX7_asks 22 = .ok (.iload_n 1, 1) := by decide +kernel
theorem dX7_asks_23 : decode cX7_asks 23 = .ok (.invokestatic 78, 3) := by decide +kernel
theorem dX7_asks_26 : decode cX7_asks 26 = .ok (.iconst 3, 1) := by decide +kernel
theorem dX7_asks_27 : decode cX7_asks 27 = .ok (.iadd, 1) := by decide +kernel
theorem dX7_asks_28 : decode cX7_asks 28 = .ok (.iaload, 1) := by decide +kernel
theorem dX7_asks_29 : decode cX7_asks 29 = .ok (.if_icmp .ge 165, 3) := by decide +kernel
theorem dX7_asks_32 : decode cX7_asks 32 = .ok (.iload_n 1, 1) := by decide +kernel
theorem dX7_asks_33 : decode cX7_asks 33 = .ok (.iload 4, 2) := by decide +kernel
theorem dX7_asks_35 : decode cX7_asks 35 = .ok (.invokestatic 227, 3) := by decide +kernel
theorem dX7_asks_38 : decode cX7_asks 38 = .ok (.istore 5, 2) := by decide +kernel
theorem dX7_asks_40 : decode cX7_asks 40 = .ok (.aload_n 0, 1) := by decide +kernel
theorem dX7_asks_41 : decode cX7_asks 41 = .ok (.getfield 17, 3) := by decide +kernel
theorem dX7_asks_44 : decode cX7_asks 44 = .ok (.iload 5, 2) := by decide +kernel
theorem dX7_asks_46 : decode cX7_asks 46 = .ok (.iconst 0, 1) := by decide +kernel
theorem dX7_asks_47 : decode cX7_asks 47 = .ok (.iadd, 1) := by decide +kernel
theorem dX7_asks_48 : decode cX7_asks 48 = .ok (.iaload, 1) := by decide +kernel
theorem dX7_asks_49 : decode cX7_asks 49 = .ok (.iload_n 2, 1) := by decide +kernel
theorem dX7_asks_50 : decode cX7_asks 50 = .ok (.if_icmp .ne 138, 3) := by decide +kernel
theorem dX7_asks_53 : decode cX7_asks 53 = .ok (.aload_n 0, 1) := by decide +kernel
theorem dX7_asks_54 : decode cX7_asks 54 = .ok (.getfield 17, 3) := by decide +kernel
theorem dX7_asks_57 : decode cX7_asks 57 = .ok (.iload 5, 2) := by decide +kernel
theorem dX7_asks_59 : decode cX7_asks 59 = .ok (.bipush 6, 2) := by decide +kernel
theorem dX7_asks_61 : decode cX7_asks 61 = .ok (.iadd, 1) := by decide +kernel
theorem dX7_asks_62 : decode cX7_asks 62 = .ok (.iaload, 1) := by decide +kernel
theorem dX7_asks_63 : decode cX7_asks 63 = .ok (.aload_n 0, 1) := by decide +kernel
theorem dX7_asks_64 : decode cX7_asks 64 = .ok (.getfield 17, 3) := by decide +kernel
theorem dX7_asks_67 : decode cX7_asks 67 = .ok (.iload 5, 2) := by decide +kernel
theorem dX7_asks_69 : decode cX7_asks 69 = .ok (.iconst 5, 1) := by decide +kernel
theorem dX7_asks_70 : decode cX7_asks 70 = .ok (.iadd, 1) := by decide +kernel
theorem dX7_asks_71 : decode cX7_asks 71 = .ok (.iaload, 1) := by decide +kernel
theorem dX7_asks_72 : decode cX7_asks 72 = .ok (.iadd, 1) := by decide +kernel
theorem dX7_asks_73 : decode cX7_asks 73 = .ok (.aload_n 0, 1) := by decide +kernel
theorem dX7_asks_74 : decode cX7_asks 74 = .ok (.getfield 17, 3) := by decide +kernel
theorem dX7_asks_77 : decode cX7_asks 77 = .ok (.iconst 0, 1) := by decide +kernel
theorem dX7_asks_78 : decode cX7_asks 78 = .ok (.iaload, 1) := by decide +kernel
theorem dX7_asks_79 : decode cX7_asks 79 = .ok (.isub, 1) := by decide +kernel
theorem dX7_asks_80 : decode cX7_asks 80 = .ok (.aload_n 0, 1) := by decide +kernel
theorem dX7_asks_81 : decode cX7_asks 81 = .ok (.getfield 17, 3) := by decide +kernel
theorem dX7_asks_84 : decode cX7_asks 84 = .ok (.iload 5, 2) := by decide +kernel
theorem dX7_asks_86 : decode cX7_asks 86 = .ok (.iconst 5, 1) := by decide +kernel
theorem dX7_asks_87 : decode cX7_asks 87 = .ok (.iadd, 1) := by decide +kernel
theorem dX7_asks_88 : decode cX7_asks 88 = .ok (.iaload, 1) := by decide +kernel
theorem dX7_asks_89 : decode cX7_asks 89 = .ok (.iconst 2, 1) := by decide +kernel
theorem dX7_asks_90 : decode cX7_asks 90 = .ok (.idiv, 1) := by decide +kernel
theorem dX7_asks_91 : decode cX7_asks 91 = .ok (.if_icmp .le 97, 3) := by decide +kernel
theorem dX7_asks_94 : decode cX7_asks 94 = .ok (.iload_n 3, 1) := by decide +kernel
theorem dX7_asks_95 : decode cX7_asks 95 = .ok (.iconst 1, 1) := by decide +kernel
theorem dX7_asks_96 : decode cX7_asks 96 = .ok (.iadd, 1) := by decide +kernel
theorem dX7_asks_97 : decode cX7_asks 97 = .ok (.iconst 4, 1) := by decide +kernel
theorem dX7_asks_98 : decode cX7_asks 98 = .ok (.aload_n 0, 1) := by decide +kernel
theorem dX7_asks_99 : decode cX7_asks 99 = .ok (.getfield 17, 3) := by decide +kernel
theorem dX7_asks_102 : decode cX7_asks 102 = .ok (.iload_n 3, 1) := by decide +kernel
theorem dX7_asks_103 : decode cX7_asks 103 = .ok (.iaload, 1) := by decide +kernel
theorem dX7_asks_104 : decode cX7_asks 104 = .ok (.imul, 1) := by decide +kernel
theorem dX7_asks_105 : decode cX7_asks 105 = .ok (.iadd, 1) := by decide +kernel
theorem dX7_asks_106 : decode cX7_asks 106 = .ok (.istore 6, 2) := by decide +kernel
theorem dX7_asks_108 : decode cX7_asks 108 = .ok (.aload_n 0, 1) := by decide +kernel
theorem dX7_asks_109 : decode cX7_asks 109 = .ok (.getfield 17, 3) := by decide +kernel
theorem dX7_asks_112 : decode cX7_asks 112 = .ok (.iload 6, 2) := by decide +kernel
theorem dX7_asks_114 : decode cX7_asks 114 = .ok (.aload_n 0, 1) := by decide +kernel
theorem dX7_asks_115 : decode cX7_asks 115 = .ok (.getfield 17, 3) := by decide +kernel
theorem dX7_asks_118 : decode cX7_asks 118 = .ok (.iload 5, 2) := by decide +kernel
theorem dX7_asks_120 : decode cX7_asks 120 = .ok (.iconst 1, 1) := by decide +kernel
theorem dX7_asks_121 : decode cX7_asks 121 = .ok (.iadd, 1) := by decide +kernel
theorem dX7_asks_122 : decode cX7_asks 122 = .ok (.iaload, 1) := by decide +kernel
theorem dX7_asks_123 : decode cX7_asks 123 = .ok (.iastore, 1) := by decide +kernel
theorem dX7_asks_124 : decode cX7_asks 124 = .ok (.aload_n 0, 1) := by decide +kernel
theorem dX7_asks_125 : decode cX7_asks 125 = .ok (.getfield 17, 3) := by decide +kernel
theorem dX7_asks_128 : decode cX7_asks 128 = .ok (.iload 6, 2) := by decide +kernel
theorem dX7_asks_130 : decode cX7_asks 130 = .ok (.iconst 1, 1) := by decide +kernel
theorem dX7_asks_131 : decode cX7_asks 131 = .ok (.iadd, 1) := by decide +kernel
theorem dX7_asks_132 : decode cX7_asks 132 = .ok (.aload_n 0, 1) := by decide +kernel
theorem dX7_asks_133 : decode cX7_asks 133 = .ok (.getfield 17, 3) := by decide +kernel
theorem dX7_asks_136 : decode cX7_asks 136 = .ok (.iload 5, 2) := by decide +kernel
theorem dX7_asks_138 : decode cX7_asks 138 = .ok (.iconst 2, 1) := by decide +kernel
theorem dX7_asks_139 : decode cX7_asks 139 = .ok (.iadd, 1) := by decide +kernel
theorem dX7_asks_140 : decode cX7_asks 140 = .ok (.iaload, 1) := by decide +kernel
theorem dX7_asks_141 : decode cX7_asks 141 = .ok (.iastore, 1) := by decide +kernel
theorem dX7_asks_142 : decode cX7_asks 142 = .ok (.aload_n 0, 1) := by decide +kernel
theorem dX7_asks_143 : decode cX7_asks 143 = .ok (.getfield 17, 3) := by decide +kernel
theorem dX7_asks_146 : decode cX7_asks 146 = .ok (.iload 6, 2) := by decide +kernel
theorem dX7_asks_148 : decode cX7_asks 148 = .ok (.iconst 2, 1) := by decide +kernel
theorem dX7_asks_149 : decode cX7_asks 149 = .ok (.iadd, 1) := by decide +kernel
theorem dX7_asks_150 : decode cX7_asks 150 = .ok (.aload_n 0, 1) := by decide +kernel
theorem dX7_asks_151 : decode cX7_asks 151 = .ok (.getfield 17, 3) := by decide +kernel
theorem dX7_asks_154 : decode cX7_asks 154 = .ok (.iload 5, 2) := by decide +kernel
theorem dX7_asks_156 : decode cX7_asks 156 = .ok (.iconst 3, 1) := by decide +kernel
theorem dX7_asks_157 : decode cX7_asks 157 = .ok (.iadd, 1) := by decide +kernel
theorem dX7_asks_158 : decode cX7_asks 158 = .ok (.iaload, 1) := by decide +kernel
theorem dX7_asks_159 : decode cX7_asks 159 = .ok (.iastore, 1) := by decide +kernel
theorem dX7_asks_160 : decode cX7_asks 160 = .ok (.aload_n 0, 1) := by decide +kernel
theorem dX7_asks_161 : decode cX7_asks 161 = .ok (.getfield 17, 3) := by decide +kernel
theorem dX7_asks_164 : decode cX7_asks 164 = .ok (.iload 6, 2) := by decide +kernel
theorem dX7_asks_166 : decode cX7_asks 166 = .ok (.iconst 3, 1) := by decide +kernel
theorem dX7_asks_167 : decode cX7_asks 167 = .ok (.iadd, 1) := by decide +kernel
theorem dX7_asks_168 : decode cX7_asks 168 = .ok (.aload_n 0, 1) := by decide +kernel
theorem dX7_asks_169 : decode cX7_asks 169 = .ok (.getfield 17, 3) := by decide +kernel
theorem dX7_asks_172 : decode cX7_asks 172 = .ok (.iload 5, 2) := by decide +kernel
theorem dX7_asks_174 : decode cX7_asks 174 = .ok (.iconst 4, 1) := by decide +kernel
theorem dX7_asks_175 : decode cX7_asks 175 = .ok (.iadd, 1) := by decide +kernel
theorem dX7_asks_176 : decode cX7_asks 176 = .ok (.iaload, 1) := by decide +kernel
theorem dX7_asks_177 : decode cX7_asks 177 = .ok (.iastore, 1) := by decide +kernel
theorem dX7_asks_178 : decode cX7_asks 178 = .ok (.aload_n 0, 1) := by decide +kernel
theorem dX7_asks_179 : decode cX7_asks 179 = .ok (.getfield 17, 3) := by decide +kernel
theorem dX7_asks_182 : decode cX7_asks 182 = .ok (.iload_n 3, 1) := by decide +kernel
theorem dX7_asks_183 : decode cX7_asks 183 = .ok (.dup2, 1) := by decide +kernel
theorem dX7_asks_184 : decode cX7_asks 184 = .ok (.iaload, 1) := by decide +kernel
theorem dX7_asks_185 : decode cX7_asks 185 = .ok (.iconst 1, 1) := by decide +kernel
theorem dX7_asks_186 : decode cX7_asks 186 = .ok (.iadd, 1) := by decide +kernel
theorem dX7_asks_187 : decode cX7_asks 187 = .ok (.iastore, 1) := by decide +kernel
theorem dX7_asks_188 : decode cX7_asks 188 = .ok (.iinc 4 1, 3) := by decide +kernel
theorem dX7_asks_191 : decode cX7_asks 191 = .ok (.goto (-175), 3) := by decide +kernel
theorem dX7_asks_194 : decode cX7_asks 194 = .ok (.aload_n 0, 1) := by decide +kernel
theorem dX7_asks_195 : decode cX7_asks 195 = .ok (.getfield 17, 3) := by decide +kernel
theorem dX7_asks_198 : decode cX7_asks 198 = .ok (.iload_n 1, 1) := by decide +kernel
theorem dX7_asks_199 : decode cX7_asks 199 = .ok (.iload_n 2, 1) := by decide +kernel
theorem dX7_asks_200 : decode cX7_asks 200 = .ok (.invokestatic 81, 3) := by decide +kernel
theorem dX7_asks_203 : decode cX7_asks 203 = .ok (.iconst 3, 1) := by decide +kernel
theorem dX7_asks_204 : decode cX7_asks 204 = .ok (.iadd, 1) := by decide +kernel
theorem dX7_asks_205 : decode cX7_asks 205 = .ok (.dup2, 1) := by decide +kernel
theorem dX7_asks_206 : decode cX7_asks 206 = .ok (.iaload, 1) := by decide +kernel
theorem dX7_asks_207 : decode cX7_asks 207 = .ok (.iconst 1, 1) := by decide +kernel
theorem dX7_asks_208 : decode cX7_asks 208 = .ok (.iadd, 1) := by decide +kernel
theorem dX7_asks_209 : decode cX7_asks 209 = .ok (.iastore, 1) := by decide +kernel
theorem dX7_asks_210 : decode cX7_asks 210 = .ok (.aload_n 0, 1) := by decide +kernel
theorem dX7_asks_211 : decode cX7_asks 211 = .ok (.iconst 2, 1) := by decide +kernel
theorem dX7_asks_212 : decode cX7_asks 212 = .ok (.iload_n 1, 1) := by decide +kernel
theorem dX7_asks_213 : decode cX7_asks 213 = .ok (.iload_n 2, 1) := by decide +kernel
theorem dX7_asks_214 : decode cX7_asks 214 = .ok (.iconst 0, 1) := by decide +kernel
theorem dX7_asks_215 : decode cX7_asks 215 = .ok (.iconst 0, 1) := by decide +kernel
theorem dX7_asks_216 : decode cX7_asks 216 = .ok (.iconst 0, 1) := by decide +kernel
theorem dX7_asks_217 : decode cX7_asks 217 = .ok (.iconst 0, 1) := by decide +kernel
theorem dX7_asks_218 : decode cX7_asks 218 = .ok (.invokevirtual 223, 3) := by decide +kernel
theorem dX7_asks_221 : decode cX7_asks 221 = .ok (.return_, 1) := by decide +kernel
theorem dX7_looks_0 : decode cX7_looks 0 = .ok (.iload_n 1, 1) := by decide +kernel
theorem dX7_looks_1 : decode cX7_looks 1 = .ok (.iload_n 2, 1) := by decide +kernel
theorem dX7_looks_2 : decode cX7_looks 2 = .ok (.invokestatic 81, 3) := by decide +kernel
theorem dX7_looks_5 : decode cX7_looks 5 = .ok (.istore_n 3, 1) := by decide +kernel
theorem dX7_looks_6 : decode cX7_looks 6 = .ok (.aload_n 0, 1) := by decide +kernel
theorem dX7_looks_7 : decode cX7_looks 7 = .ok (.getfield 17, 3) := by decide +kernel
theorem dX7_looks_10 : decode cX7_looks 10 = .ok (.iload_n 3, 1) := by decide +kernel
theorem dX7_looks_11 : decode cX7_looks 11 = .ok (.iconst 1, 1) := by decide +kernel
theorem dX7_looks_12 : decode cX7_looks 12 = .ok (.iadd, 1) := by decide +kernel
theorem dX7_looks_13 : decode cX7_looks 13 = .ok (.iaload, 1) := by decide +kernel
theorem dX7_looks_14 : decode cX7_looks 14 = .ok (.aload_n 0, 1) := by decide +kernel
theorem dX7_looks_15 : decode cX7_looks 15 = .ok (.getfield 17, 3) := by decide +kernel
theorem dX7_looks_18 : decode cX7_looks 18 = .ok (.iconst 0, 1) := by decide +kernel
theorem dX7_looks_19 : decode cX7_looks 19 = .ok (.iaload, 1) := by decide +kernel
theorem dX7_looks_20 : decode cX7_looks 20 = .ok (.if_icmp .gt 7, 3) := by decide +kernel
theorem dX7_looks_23 : decode cX7_looks 23 = .ok (.iconst 1, 1) := by decide +kernel
theorem dX7_looks_24 : decode cX7_looks 24 = .ok (.goto 4, 3) := by decide +kernel
theorem dX7_looks_27 : decode cX7_looks 27 = .ok (.iconst 0, 1) := by decide +kernel
theorem dX7_looks_28 : decode cX7_looks 28 = .ok (.istore 4, 2) := by decide +kernel
theorem dX7_looks_30 : decode cX7_looks 30 = .ok (.iconst 0, 1) := by decide +kernel
theorem dX7_looks_31 : decode cX7_looks 31 = .ok (.istore 5, 2) := by decide +kernel
theorem dX7_looks_33 : decode cX7_looks 33 = .ok (.iconst 0, 1) := by decide +kernel
theorem dX7_looks_34 : decode cX7_looks 34 = .ok (.istore 6, 2) := by decide +kernel
theorem dX7_looks_36 : decode cX7_looks 36 = .ok (.iload 6, 2) := by decide +kernel
theorem dX7_looks_38 : decode cX7_looks 38 = .ok (.aload_n 0, 1) := by decide +kernel
theorem dX7_looks_39 : decode cX7_looks 39 = .ok (.getfield 17, 3) := by decide +kernel
theorem dX7_looks_42 : decode cX7_looks 42 = .ok (.iload_n 1, 1) := by decide +kernel
theorem dX7_looks_43 : decode cX7_looks 43 = .ok (.invokestatic 78, 3) := by decide +kernel
theorem dX7_looks_46 : decode cX7_looks 46 = .ok (.iconst 3, 1) := by decide +kernel
theorem dX7_looks_47 : decode cX7_looks 47 = .ok (.iadd, 1) := by decide +kernel
theorem dX7_looks_48 : decode cX7_looks 48 = .ok (.iaload, 1) := by decide +kernel
theorem dX7_looks_49 : decode cX7_looks 49 = .ok (.if_icmp .ge 49, 3) := by decide +kernel
theorem dX7_looks_52 : decode cX7_looks 52 = .ok (.iload 5, 2) := by decide +kernel
theorem dX7_looks_54 : decode cX7_looks 54 = .ok (.aload_n 0, 1) := by decide +kernel
theorem dX7_looks_55 : decode cX7_looks 55 = .ok (.getfield 17, 3) := by decide +kernel
theorem dX7_looks_58 : decode cX7_looks 58 = .ok (.iload_n 1, 1) := by decide +kernel
theorem dX7_looks_59 : decode cX7_looks 59 = .ok (.iload 6, 2) := by decide +kernel
theorem dX7_looks_61 : decode cX7_looks 61 = .ok (.invokestatic 227, 3) := by decide +kernel
theorem dX7_looks_64 : decode cX7_looks 64 = .ok (.iconst 0, 1) := by decide +kernel
theorem dX7_looks_65 : decode cX7_looks 65 = .ok (.iadd, 1) := by decide +kernel
theorem dX7_looks_66 : decode cX7_looks 66 = .ok (.iaload, 1) := by decide +kernel
theorem dX7_looks_67 : decode cX7_looks 67 = .ok (.iload_n 2, 1) := by decide +kernel
theorem dX7_looks_68 : decode cX7_looks 68 = .ok (.if_icmp .ne 20, 3) := by decide +kernel
theorem dX7_looks_71 : decode cX7_looks 71 = .ok (.aload_n 0, 1) := by decide +kernel
theorem dX7_looks_72 : decode cX7_looks 72 = .ok (.iload_n 1, 1) := by decide +kernel
theorem dX7_looks_73 : decode cX7_looks 73 = .ok (.iload 6, 2) := by decide +kernel
theorem dX7_looks_75 : decode cX7_looks 75 = .ok (.invokestatic 227, 3) := by decide +kernel
theorem dX7_looks_78 : decode cX7_looks 78 = .ok (.invokevirtual 270, 3) := by decide +kernel
theorem dX7_looks_81 : decode cX7_looks 81 = .ok (.ifCond .eq 7, 3) := by decide +kernel
theorem dX7_looks_84 : decode cX7_looks 84 = .ok (.iconst 1, 1) := by decide +kernel
theorem dX7_looks_85 : decode cX7_looks 85 = .ok (.goto 4, 3) := by decide +kernel
theorem dX7_looks_88 : decode cX7_looks 88 = .ok (.iconst 0, 1) := by decide +kernel
theorem dX7_looks_89 : decode cX7_looks 89 = .ok (.ior, 1) := by decide +kernel
theorem dX7_looks_90 : decode cX7_looks 90 = .ok (.istore 5, 2) := by decide +kernel
theorem dX7_looks_92 : decode cX7_looks 92 = .ok (.iinc 6 1, 3) := by decide +kernel
theorem dX7_looks_95 : decode cX7_looks 95 = .ok (.goto (-59), 3) := by decide +kernel
theorem dX7_looks_98 : decode cX7_looks 98 = .ok (.iload 4, 2) := by decide +kernel
theorem dX7_looks_100 : decode cX7_looks 100 = .ok (.ifCond .ne 9, 3) := by decide +kernel
theorem dX7_looks_103 : decode cX7_looks 103 = .ok (.iload 5, 2) := by decide +kernel
theorem dX7_looks_105 : decode cX7_looks 105 = .ok (.ifCond .ne 4, 3) := by decide +kernel
theorem dX7_looks_108 : decode cX7_looks 108 = .ok (.return_, 1) := by decide +kernel
theorem dX7_looks_109 : decode cX7_looks 109 = .ok (.aload_n 0, 1) := by decide +kernel
theorem dX7_looks_110 : decode cX7_looks 110 = .ok (.iload_n 1, 1) := by decide +kernel
theorem dX7_looks_111 : decode cX7_looks 111 = .ok (.iload_n 2, 1) := by decide +kernel
theorem dX7_looks_112 : decode cX7_looks 112 = .ok (.invokevirtual 273, 3) := by decide +kernel
theorem dX7_looks_115 : decode cX7_looks 115 = .ok (.iload 4, 2) := by decide +kernel
theorem dX7_looks_117 : decode cX7_looks 117 = .ok (.ifCond .eq 65, 3) := by decide +kernel
theorem dX7_looks_120 : decode cX7_looks 120 = .ok (.aload_n 0, 1) := by decide +kernel
theorem dX7_looks_121 : decode cX7_looks 121 = .ok (.getfield 17, 3) := by decide +kernel
theorem dX7_looks_124 : decode cX7_looks 124 = .ok (.iload_n 3, 1) := by decide +kernel
theorem dX7_looks_125 : decode cX7_looks 125 = .ok (.iconst 1, 1) := by decide +kernel
theorem dX7_looks_126 : decode cX7_looks 126 = .ok (.iadd, 1) := by decide +kernel
theorem dX7_looks_127 : decode cX7_looks 127 = .ok (.aload_n 0, 1) := by decide +kernel
theorem dX7_looks_128 : decode cX7_looks 128 = .ok (.getfield 17, 3) := by decide +kernel
theorem dX7_looks_131 : decode cX7_looks 131 = .ok (.iconst 0, 1) := by decide +kernel
theorem dX7_looks_132 : decode cX7_looks 132 = .ok (.iaload, 1) := by decide +kernel
theorem dX7_looks_133 : decode cX7_looks 133 = .ok (.aload_n 0, 1) := by decide +kernel
theorem dX7_looks_134 : decode cX7_looks 134 = .ok (.getfield 17, 3) := by decide +kernel
theorem dX7_looks_137 : decode cX7_looks 137 = .ok (.iload_n 3, 1) := by decide +kernel
theorem dX7_looks_138 : decode cX7_looks 138 = .ok (.iconst 2, 1) := by decide +kernel
theorem dX7_looks_139 : decode cX7_looks 139 = .ok (.iadd, 1) := by decide +kernel
theorem dX7_looks_140 : decode cX7_looks 140 = .ok (.iaload, 1) := by decide +kernel
theorem dX7_looks_141 : decode cX7_looks 141 = .ok (.iadd, 1) := by decide +kernel
theorem dX7_looks_142 : decode cX7_looks 142 = .ok (.iastore, 1) := by decide +kernel
theorem dX7_looks_143 : decode cX7_looks 143 = .ok (.aload_n 0, 1) := by decide +kernel
theorem dX7_looks_144 : decode cX7_looks 144 = .ok (.getfield 17, 3) := by decide +kernel
theorem dX7_looks_147 : decode cX7_looks 147 = .ok (.iload_n 3, 1) := by decide +kernel
theorem dX7_looks_148 : decode cX7_looks 148 = .ok (.iconst 2, 1) := by decide +kernel
theorem dX7_looks_149 : decode cX7_looks 149 = .ok (.iadd, 1) := by decide +kernel
theorem dX7_looks_150 : decode cX7_looks 150 = .ok (.aload_n 0, 1) := by decide +kernel
theorem dX7_looks_151 : decode cX7_looks 151 = .ok (.getfield 17, 3) := by decide +kernel
theorem dX7_looks_154 : decode cX7_looks 154 = .ok (.iload_n 3, 1) := by decide +kernel
theorem dX7_looks_155 : decode cX7_looks 155 = .ok (.iconst 2, 1) := by decide +kernel
theorem dX7_looks_156 : decode cX7_looks 156 = .ok (.iadd, 1) := by decide +kernel
theorem dX7_looks_157 : decode cX7_looks 157 = .ok (.iaload, 1) := by decide +kernel
theorem dX7_looks_158 : decode cX7_looks 158 = .ok (.bipush 32, 2) := by decide +kernel
theorem dX7_looks_160 : decode cX7_looks 160 = .ok (.if_icmp .ge 16, 3) := by decide +kernel
theorem dX7_looks_163 : decode cX7_looks 163 = .ok (.iconst 2, 1) := by decide +kernel
theorem dX7_looks_164 : decode cX7_looks 164 = .ok (.aload_n 0, 1) := by decide +kernel
theorem dX7_looks_165 : decode cX7_looks 165 = .ok (.getfield 17, 3) := by decide +kernel
theorem dX7_looks_168 : decode cX7_looks 168 = .ok (.iload_n 3, 1) := by decide +kernel
theorem dX7_looks_169 : decode cX7_looks 169 = .ok (.iconst 2, 1) := by decide +kernel
theorem dX7_looks_170 : decode cX7_looks 170 = .ok (.iadd, 1) := by decide +kernel
theorem dX7_looks_171 : decode cX7_looks 171 = .ok (.iaload, 1) := by decide +kernel
theorem dX7_looks_172 : decode cX7_looks 172 = .ok (.imul, 1) := by decide +kernel
theorem dX7_looks_173 : decode cX7_looks 173 = .ok (.goto 5, 3) := by decide +kernel
theorem dX7_looks_176 : decode cX7_looks 176 = .ok (.bipush 64, 2) := by decide +kernel
theorem dX7_looks_178 : decode cX7_looks 178 = .ok (.iastore, 1) := by decide +kernel
theorem dX7_looks_179 : decode cX7_looks 179 = .ok (.goto 15, 3) := by decide +kernel
theorem dX7_looks_194 : decode cX7_looks 194 = .ok (.iconst 0, 1) := by decide +kernel
theorem dX7_looks_195 : decode cX7_looks 195 = .ok (.istore 6, 2) := by decide +kernel
theorem dX7_looks_197 : decode cX7_looks 197 = .ok (.iload 6, 2) := by decide +kernel
theorem dX7_looks_199 : decode cX7_looks 199 = .ok (.aload_n 0, 1) := by decide +kernel
theorem dX7_looks_200 : decode cX7_looks 200 = .ok (.getfield 17, 3) := by decide +kernel
theorem dX7_looks_203 : decode cX7_looks 203 = .ok (.iload_n 1, 1) := by decide +kernel
theorem dX7_looks_204 : decode cX7_looks 204 = .ok (.invokestatic 78, 3) := by decide +kernel
theorem dX7_looks_207 : decode cX7_looks 207 = .ok (.iconst 3, 1) := by decide +kernel
theorem dX7_looks_208 : decode cX7_looks 208 = .ok (.iadd, 1) := by decide +kernel
theorem dX7_looks_209 : decode cX7_looks 209 = .ok (.iaload, 1) := by decide +kernel
theorem dX7_looks_210 : decode cX7_looks 210 = .ok (.if_icmp .ge 57, 3) := by decide +kernel
theorem dX7_looks_213 : decode cX7_looks 213 = .ok (.iload_n 1, 1) := by decide +kernel
theorem dX7_looks_214 : decode cX7_looks 214 = .ok (.iload 6, 2) := by decide +kernel
theorem dX7_looks_216 : decode cX7_looks 216 = .ok (.invokestatic 227, 3) := by decide +kernel
theorem dX7_looks_219 : decode cX7_looks 219 = .ok (.istore 7, 2) := by decide +kernel
theorem dX7_looks_221 : decode cX7_looks 221 = .ok (.aload_n 0, 1) := by decide +kernel
theorem dX7_looks_222 : decode cX7_looks 222 = .ok (.getfield 17, 3) := by decide +kernel
theorem dX7_looks_225 : decode cX7_looks 225 = .ok (.iload 7, 2) := by decide +kernel
theorem dX7_looks_227 : decode cX7_looks 227 = .ok (.bipush 7, 2) := by decide +kernel
theorem dX7_looks_229 : decode cX7_looks 229 = .ok (.iadd, 1) := by decide +kernel
theorem dX7_looks_230 : decode cX7_looks 230 = .ok (.dup2, 1) := by decide +kernel
theorem dX7_looks_231 : decode cX7_looks 231 = .ok (.iaload, 1) := by decide +kernel
theorem dX7_looks_232 : decode cX7_looks 232 = .ok (.aload_n 0, 1) := by decide +kernel
theorem dX7_looks_233 : decode cX7_looks 233 = .ok (.getfield 17, 3) := by decide +kernel
theorem dX7_looks_236 : decode cX7_looks 236 = .ok (.iload 7, 2) := by decide +kernel
theorem dX7_looks_238 : decode cX7_looks 238 = .ok (.iconst 0, 1) := by decide +kernel
theorem dX7_looks_239 : decode cX7_looks 239 = .ok (.iadd, 1) := by decide +kernel
theorem dX7_looks_240 : decode cX7_looks 240 = .ok (.iaload, 1) := by decide +kernel
theorem dX7_looks_241 : decode cX7_looks 241 = .ok (.iload_n 2, 1) := by decide +kernel
theorem dX7_looks_242 : decode cX7_looks 242 = .ok (.if_icmp .ne 16, 3) := by decide +kernel
theorem dX7_looks_245 : decode cX7_looks 245 = .ok (.aload_n 0, 1) := by decide +kernel
theorem dX7_looks_246 : decode cX7_looks 246 = .ok (.iload 7, 2) := by decide +kernel
theorem dX7_looks_248 : decode cX7_looks 248 = .ok (.invokevirtual 270, 3) := by decide +kernel
theorem dX7_looks_251 : decode cX7_looks 251 = .ok (.ifCond .eq 7, 3) := by decide +kernel
theorem dX7_looks_254 : decode cX7_looks 254 = .ok (.iconst 1, 1) := by decide +kernel
theorem dX7_looks_255 : decode cX7_looks 255 = .ok (.goto 4, 3) := by decide +kernel
theorem dX7_looks_258 : decode cX7_looks 258 = .ok (.iconst 0, 1) := by decide +kernel
theorem dX7_looks_259 : decode cX7_looks 259 = .ok (.iadd, 1) := by decide +kernel
theorem dX7_looks_260 : decode cX7_looks 260 = .ok (.iastore, 1) := by decide +kernel
theorem dX7_looks_261 : decode cX7_looks 261 = .ok (.iinc 6 1, 3) := by decide +kernel
theorem dX7_looks_264 : decode cX7_looks 264 = .ok (.goto (-67), 3) := by decide +kernel
theorem dX7_looks_267 : decode cX7_looks 267 = .ok (.return_, 1) := by decide +kernel
theorem dX7_ticks_0 : decode cX7_ticks 0 = .ok (.aload_n 0, 1) := by decide +kernel
theorem dX7_ticks_1 : decode cX7_ticks 1 = .ok (.invokevirtual 276, 3) := by decide +kernel
theorem dX7_ticks_4 : decode cX7_ticks 4 = .ok (.iconst 0, 1) := by decide +kernel
theorem dX7_ticks_5 : decode cX7_ticks 5 = .ok (.istore_n 1, 1) := by decide +kernel
theorem dX7_ticks_6 : decode cX7_ticks 6 = .ok (.iload_n 1, 1) := by decide +kernel
theorem dX7_ticks_7 : decode cX7_ticks 7 = .ok (.aload_n 0, 1) := by decide +kernel
theorem dX7_ticks_8 : decode cX7_ticks 8 = .ok (.getfield 199, 3) := by decide +kernel
theorem dX7_ticks_11 : decode cX7_ticks 11 = .ok (.if_icmp .ge 14, 3) := by decide +kernel
theorem dX7_ticks_14 : decode cX7_ticks 14 = .ok (.aload_n 0, 1) := by decide +kernel
theorem dX7_ticks_15 : decode cX7_ticks 15 = .ok (.iload_n 1, 1) := by decide +kernel
theorem dX7_ticks_16 : decode cX7_ticks 16 = .ok (.invokevirtual 279, 3) := by decide +kernel
theorem dX7_ticks_19 : decode cX7_ticks 19 = .ok (.iinc 1 1, 3) := by decide +kernel
theorem dX7_ticks_22 : decode cX7_ticks 22 = .ok (.goto (-16), 3) := by decide +kernel
theorem dX7_ticks_25 : decode cX7_ticks 25 = .ok (.iconst 0, 1) := by decide +kernel
theorem dX7_ticks_26 : decode cX7_ticks 26 = .ok (.istore_n 1, 1) := by decide +kernel
theorem dX7_ticks_27 : decode cX7_ticks 27 = .ok (.iload_n 1, 1) := by decide +kernel
theorem dX7_ticks_28 : decode cX7_ticks 28 = .ok (.aload_n 0, 1) := by decide +kernel
theorem dX7_ticks_29 : decode cX7_ticks 29 = .ok (.getfield 17, 3) := by decide +kernel
theorem dX7_ticks_32 : decode cX7_ticks 32 = .ok (.bipush 8, 2) := by decide +kernel
theorem dX7_ticks_34 : decode cX7_ticks 34 = .ok (.iaload, 1) := by decide +kernel
theorem dX7_ticks_35 : decode cX7_ticks 35 = .ok (.if_icmp .ge 14, 3) := by decide +kernel
theorem dX7_ticks_38 : decode cX7_ticks 38 = .ok (.aload_n 0, 1) := by decide +kernel
theorem dX7_ticks_39 : decode cX7_ticks 39 = .ok (.iload_n 1, 1) := by decide +kernel
theorem dX7_ticks_40 : decode cX7_ticks 40 = .ok (.invokevirtual 282, 3) := by decide +kernel
theorem dX7_ticks_43 : decode cX7_ticks 43 = .ok (.iinc 1 1, 3) := by decide +kernel
theorem dX7_ticks_46 : decode cX7_ticks 46 = .ok (.goto (-19), 3) := by decide +kernel
theorem dX7_ticks_49 : decode cX7_ticks 49 = .ok (.iconst 0, 1) := by decide +kernel
theorem dX7_ticks_50 : decode cX7_ticks 50 = .ok (.istore_n 1, 1) := by decide +kernel
theorem dX7_ticks_51 : decode cX7_ticks 51 = .ok (.iload_n 1, 1) := by decide +kernel
theorem dX7_ticks_52 : decode cX7_ticks 52 = .ok (.aload_n 0, 1) := by decide +kernel
theorem dX7_ticks_53 : decode cX7_ticks 53 = .ok (.getfield 199, 3) := by decide +kernel
theorem dX7_ticks_56 : decode cX7_ticks 56 = .ok (.if_icmp .ge 60, 3) := by decide +kernel
theorem dX7_ticks_59 : decode cX7_ticks 59 = .ok (.iconst 0, 1) := by decide +kernel
theorem dX7_ticks_60 : decode cX7_ticks 60 = .ok (.istore_n 2, 1) := by decide +kernel
theorem dX7_ticks_61 : decode cX7_ticks 61 = .ok (.iload_n 2, 1) := by decide +kernel
theorem dX7_ticks_62 : decode cX7_ticks 62 = .ok (.aload_n 0, 1) := by decide +kernel
theorem dX7_ticks_63 : decode cX7_ticks 63 = .ok (.getfield 202, 3) := by decide +kernel
theorem dX7_ticks_66 : decode cX7_ticks 66 = .ok (.if_icmp .ge 44, 3) := by decide +kernel
theorem dX7_ticks_69 : decode cX7_ticks 69 = .ok (.aload_n 0, 1) := by decide +kernel
theorem dX7_ticks_70 : decode cX7_ticks 70 = .ok (.getfield 17, 3) := by decide +kernel
theorem dX7_ticks_73 : decode cX7_ticks 73 = .ok (.iload_n 1, 1) := by decide +kernel
theorem dX7_ticks_74 : decode cX7_ticks 74 = .ok (.invokestatic 78, 3) := by decide +kernel
theorem dX7_ticks_77 : decode cX7_ticks 77 = .ok (.iconst 0, 1) := by decide +kernel
theorem dX7_ticks_78 : decode cX7_ticks 78 = .ok (.iadd, 1) := by decide +kernel
theorem dX7_ticks_79 : decode cX7_ticks 79 = .ok (.iaload, 1) := by decide +kernel
theorem dX7_ticks_80 : decode cX7_ticks 80 = .ok (.ifCond .eq 24, 3) := by decide +kernel
theorem dX7_ticks_83 : decode cX7_ticks 83 = .ok (.aload_n 0, 1) := by decide +kernel
theorem dX7_ticks_84 : decode cX7_ticks 84 = .ok (.getfield 17, 3) := by decide +kernel
theorem dX7_ticks_87 : decode cX7_ticks 87 = .ok (.iload_n 1, 1) := by decide +kernel
theorem dX7_ticks_88 : decode cX7_ticks 88 = .ok (.iload_n 2, 1) := by decide +kernel
theorem dX7_ticks_89 : decode cX7_ticks 89 = .ok (.invokestatic 81, 3) := by decide +kernel
theorem dX7_ticks_92 : decode cX7_ticks 92 = .ok (.iconst 0, 1) := by decide +kernel
theorem dX7_ticks_93 : decode cX7_ticks 93 = .ok (.iadd, 1) := by decide +kernel
theorem dX7_ticks_94 : decode cX7_ticks 94 = .ok (.iaload, 1) := by decide +kernel
theorem dX7_ticks_95 : decode cX7_ticks 95 = .ok (.ifCond .eq 9, 3) := by decide +kernel
theorem dX7_ticks_98 : decode cX7_ticks 98 = .ok (.aload_n 0, 1) := by decide +kernel
theorem dX7_ticks_99 : decode cX7_ticks 99 = .ok (.iload_n 1, 1) := by decide +kernel
theorem dX7_ticks_100 : decode cX7_ticks 100 = .ok (.iload_n 2, 1) := by decide +kernel
theorem dX7_ticks_101 : decode cX7_ticks 101 = .ok (.invokevirtual 285, 3) := by decide +kernel
theorem dX7_ticks_104 : decode cX7_ticks 104 = .ok (.iinc 2 1, 3) := by decide +kernel
theorem dX7_ticks_107 : decode cX7_ticks 107 = .ok (.goto (-46), 3) := by decide +kernel
theorem dX7_ticks_110 : decode cX7_ticks 110 = .ok (.iinc 1 1, 3) := by decide +kernel
theorem dX7_ticks_113 : decode cX7_ticks 113 = .ok (.goto (-62), 3) := by decide +kernel
theorem dX7_ticks_116 : decode cX7_ticks 116 = .ok (.aload_n 0, 1) := by decide +kernel
theorem dX7_ticks_117 : decode cX7_ticks 117 = .ok (.getfield 17, 3) := by decide +kernel
theorem dX7_ticks_120 : decode cX7_ticks 120 = .ok (.iconst 0, 1) := by decide +kernel
theorem dX7_ticks_121 : decode cX7_ticks 121 = .ok (.dup2, 1) := by decide +kernel
theorem dX7_ticks_122 : decode cX7_ticks 122 = .ok (.iaload, 1) := by decide +kernel
theorem dX7_ticks_123 : decode cX7_ticks 123 = .ok (.iconst 1, 1) := by decide +kernel
theorem dX7_ticks_124 : decode cX7_ticks 124 = .ok (.iadd, 1) := by decide +kernel
theorem dX7_ticks_125 : decode cX7_ticks 125 = .ok (.iastore, 1) := by decide +kernel
theorem dX7_ticks_126 : decode cX7_ticks 126 = .ok (.return_, 1) := by decide +kernel
theorem dX7_copies_0 : decode cX7_copies 0 = .ok (.sipush 2747, 3) := by decide +kernel
theorem dX7_copies_3 : decode cX7_copies 3 = .ok (.bipush 9, 2) := by decide +kernel
theorem dX7_copies_5 : decode cX7_copies 5 = .ok (.aload_n 0, 1) := by decide +kernel
theorem dX7_copies_6 : decode cX7_copies 6 = .ok (.iload_n 1, 1) := by decide +kernel
theorem dX7_copies_7 : decode cX7_copies 7 = .ok (.iconst 3, 1) := by decide +kernel
theorem dX7_copies_8 : decode cX7_copies 8 = .ok (.iadd, 1) := by decide +kernel
theorem dX7_copies_9 : decode cX7_copies 9 = .ok (.iaload, 1) := by decide +kernel
theorem dX7_copies_10 : decode cX7_copies 10 = .ok (.imul, 1) := by decide +kernel
theorem dX7_copies_11 : decode cX7_copies 11 = .ok (.iadd, 1) := by decide +kernel
theorem dX7_copies_12 : decode cX7_copies 12 = .ok (.istore 4, 2) := by decide +kernel
theorem dX7_copies_14 : decode cX7_copies 14 = .ok (.iconst 0, 1) := by decide +kernel
theorem dX7_copies_15 : decode cX7_copies 15 = .ok (.istore 5, 2) := by decide +kernel
theorem dX7_copies_17 : decode cX7_copies 17 = .ok (.iload 5, 2) := by decide +kernel
theorem dX7_copies_19 : decode cX7_copies 19 = .ok (.iload 4, 2) := by decide +kernel
theorem dX7_copies_21 : decode cX7_copies 21 = .ok (.if_icmp .ge 21, 3) := by decide +kernel
theorem dX7_copies_24 : decode cX7_copies 24 = .ok (.aload_n 2, 1) := by decide +kernel
theorem dX7_copies_25 : decode cX7_copies 25 = .ok (.iload_n 3, 1) := by decide +kernel
theorem dX7_copies_26 : decode cX7_copies 26 = .ok (.iload 5, 2) := by decide +kernel
theorem dX7_copies_28 : decode cX7_copies 28 = .ok (.iadd, 1) := by decide +kernel
theorem dX7_copies_29 : decode cX7_copies 29 = .ok (.aload_n 0, 1) := by decide +kernel
theorem dX7_copies_30 : decode cX7_copies 30 = .ok (.iload_n 1, 1) := by decide +kernel
theorem dX7_copies_31 : decode cX7_copies 31 = .ok (.iload 5, 2) := by decide +kernel
theorem dX7_copies_33 : decode cX7_copies 33 = .ok (.iadd, 1) := by decide +kernel
theorem dX7_copies_34 : decode cX7_copies 34 = .ok (.iaload, 1) := by decide +kernel
theorem dX7_copies_35 : decode cX7_copies 35 = .ok (.iastore, 1) := by decide +kernel
theorem dX7_copies_36 : decode cX7_copies 36 = .ok (.iinc 5 1, 3) := by decide +kernel
theorem dX7_copies_39 : decode cX7_copies 39 = .ok (.goto (-22), 3) := by decide +kernel
theorem dX7_copies_42 : decode cX7_copies 42 = .ok (.return_, 1) := by decide +kernel
theorem dX7_lays_0 : decode cX7_lays 0 = .ok (.aload_n 0, 1) := by decide +kernel
theorem dX7_lays_1 : decode cX7_lays 1 = .ok (.getfield 17, 3) := by decide +kernel
theorem dX7_lays_4 : decode cX7_lays 4 = .ok (.iconst 0, 1) := by decide +kernel
theorem dX7_lays_5 : decode cX7_lays 5 = .ok (.aload_n 0, 1) := by decide +kernel
theorem dX7_lays_6 : decode cX7_lays 6 = .ok (.getfield 28, 3) := by decide +kernel
theorem dX7_lays_9 : decode cX7_lays 9 = .ok (.iconst 0, 1) := by decide +kernel
theorem dX7_lays_10 : decode cX7_lays 10 = .ok (.invokestatic 288, 3) := by decide +kernel
theorem dX7_lays_13 : decode cX7_lays 13 = .ok (.return_, 1) := by decide +kernel
theorem dX7_takesBack_0 : decode cX7_takesBack 0 = .ok (.aload_n 0, 1) := by decide +kernel
theorem dX7_takesBack_1 : decode cX7_takesBack 1 = .ok (.getfield 28, 3) := by decide +kernel
theorem dX7_takesBack_4 : decode cX7_takesBack 4 = .ok (.iconst 0, 1) := by decide +kernel
theorem dX7_takesBack_5 : decode cX7_takesBack 5 = .ok (.aload_n 0, 1) := by decide +kernel
theorem dX7_takesBack_6 : decode cX7_takesBack 6 = .ok (.getfield 17, 3) := by decide +kernel
theorem dX7_takesBack_9 : decode cX7_takesBack 9 = .ok (.iconst 0, 1) := by decide +kernel
theorem dX7_takesBack_10 : decode cX7_takesBack 10 = .ok (.invokestatic 288, 3) := by decide +kernel
theorem dX7_takesBack_13 : decode cX7_takesBack 13 = .ok (.return_, 1) := by decide +kernel
theorem dX7_isHost_0 : decode cX7_isHost 0 = .ok (.iload_n 1, 1) := by decide +kernel
theorem dX7_isHost_1 : decode cX7_isHost 1 = .ok (.i2l, 1) := by decide +kernel
theorem dX7_isHost_2 : decode cX7_isHost 2 = .ok (.lconst 0, 1) := by decide +kernel
theorem dX7_isHost_3 : decode cX7_isHost 3 = .ok (.aload_n 0, 1) := by decide +kernel
theorem dX7_isHost_4 : decode cX7_isHost 4 = .ok (.getfield 199, 3) := by decide +kernel
theorem dX7_isHost_7 : decode cX7_isHost 7 = .ok (.iconst 1, 1) := by decide +kernel
theorem dX7_isHost_8 : decode cX7_isHost 8 = .ok (.isub, 1) := by decide +kernel
theorem dX7_isHost_9 : decode cX7_isHost 9 = .ok (.i2l, 1) := by decide +kernel
theorem dX7_isHost_10 : decode cX7_isHost 10 = .ok (.invokestatic 92, 3) := by decide +kernel
theorem dX7_isHost_13 : decode cX7_isHost 13 = .ok (.ireturn, 1) := by decide +kernel
theorem dX7_isType_0 : decode cX7_isType 0 = .ok (.iload_n 1, 1) := by decide +kernel
theorem dX7_isType_1 : decode cX7_isType 1 = .ok (.i2l, 1) := by decide +kernel
theorem dX7_isType_2 : decode cX7_isType 2 = .ok (.lconst 0, 1) := by decide +kernel
theorem dX7_isType_3 : decode cX7_isType 3 = .ok (.aload_n 0, 1) := by decide +kernel
theorem dX7_isType_4 : decode cX7_isType 4 = .ok (.getfield 202, 3) := by decide +kernel
theorem dX7_isType_7 : decode cX7_isType 7 = .ok (.iconst 1, 1) := by decide +kernel
theorem dX7_isType_8 : decode cX7_isType 8 = .ok (.isub, 1) := by decide +kernel
theorem dX7_isType_9 : decode cX7_isType 9 = .ok (.i2l, 1) := by decide +kernel
theorem dX7_isType_10 : decode cX7_isType 10 = .ok (.invokestatic 92, 3) := by decide +kernel
theorem dX7_isType_13 : decode cX7_isType 13 = .ok (.ireturn, 1) := by decide +kernel
theorem dX7_isService_0 : decode cX7_isService 0 = .ok (.iload_n 1, 1) := by decide +kernel
theorem dX7_isService_1 : decode cX7_isService 1 = .ok (.i2l, 1) := by decide +kernel
theorem dX7_isService_2 : decode cX7_isService 2 = .ok (.lconst 0, 1) := by decide +kernel
theorem dX7_isService_3 : decode cX7_isService 3 = .ok (.aload_n 0, 1) := by decide +kernel
theorem dX7_isService_4 : decode cX7_isService 4 = .ok (.getfield 17, 3) := by decide +kernel
theorem dX7_isService_7 : decode cX7_isService 7 = .ok (.bipush 8, 2) := by decide +kernel
theorem dX7_isService_9 : decode cX7_isService 9 = .ok (.iaload, 1) := by decide +kernel
theorem dX7_isService_10 : decode cX7_isService 10 = .ok (.iconst 1, 1) := by decide +kernel
theorem dX7_isService_11 : decode cX7_isService 11 = .ok (.isub, 1) := by decide +kernel
theorem dX7_isService_12 : decode cX7_isService 12 = .ok (.i2l, 1) := by decide +kernel
theorem dX7_isService_13 : decode cX7_isService 13 = .ok (.invokestatic 92, 3) := by decide +kernel
theorem dX7_isService_16 : decode cX7_isService 16 = .ok (.ireturn, 1) := by decide +kernel
theorem dX7_logged_0 : decode cX7_logged 0 = .ok (.aload_n 0, 1) := by decide +kernel
theorem dX7_logged_1 : decode cX7_logged 1 = .ok (.getfield 17, 3) := by decide +kernel
theorem dX7_logged_4 : decode cX7_logged 4 = .ok (.bipush 6, 2) := by decide +kernel
theorem dX7_logged_6 : decode cX7_logged 6 = .ok (.iaload, 1) := by decide +kernel
theorem dX7_logged_7 : decode cX7_logged 7 = .ok (.bipush 20, 2) := by decide +kernel
theorem dX7_logged_9 : decode cX7_logged 9 = .ok (.if_icmp .ge 13, 3) := by decide +kernel
theorem dX7_logged_12 : decode cX7_logged 12 = .ok (.aload_n 0, 1) := by decide +kernel
theorem dX7_logged_13 : decode cX7_logged 13 = .ok (.getfield 17, 3) := by decide +kernel
theorem dX7_logged_16 : decode cX7_logged 16 = .ok (.bipush 6, 2) := by decide +kernel
theorem dX7_logged_18 : decode cX7_logged 18 = .ok (.iaload, 1) := by decide +kernel
theorem dX7_logged_19 : decode cX7_logged 19 = .ok (.goto 5, 3) := by decide +kernel
theorem dX7_logged_24 : decode cX7_logged 24 = .ok (.ireturn, 1) := by decide +kernel
theorem dX7_browsed_0 : decode cX7_browsed 0 = .ok (.iconst 0, 1) := by decide +kernel
theorem dX7_browsed_1 : decode cX7_browsed 1 = .ok (.istore_n 2, 1) := by decide +kernel
theorem dX7_browsed_2 : decode cX7_browsed 2 = .ok (.iconst 0, 1) := by decide +kernel
theorem dX7_browsed_3 : decode cX7_browsed 3 = .ok (.istore_n 3, 1) := by decide +kernel
theorem dX7_browsed_4 : decode cX7_browsed 4 = .ok (.iload_n 3, 1) := by decide +kernel
theorem dX7_browsed_5 : decode cX7_browsed 5 = .ok (.aload_n 0, 1) := by decide +kernel
theorem dX7_browsed_6 : decode cX7_browsed 6 = .ok (.getfield 202, 3) := by decide +kernel
theorem dX7_browsed_9 : decode cX7_browsed 9 = .ok (.if_icmp .ge 24, 3) := by decide +kernel
theorem dX7_browsed_12 : decode cX7_browsed 12 = .ok (.iload_n 2, 1) := by decide +kernel
theorem dX7_browsed_13 : decode cX7_browsed 13 = .ok (.aload_n 0, 1) := by decide +kernel
theorem dX7_browsed_14 : decode cX7_browsed 14 = .ok (.getfield 17, 3) := by decide +kernel
theorem dX7_browsed_17 : decode cX7_browsed 17 = .ok (.iload_n 1, 1) := by decide +kernel
theorem dX7_browsed_18 : decode cX7_browsed 18 = .ok (.iload_n 3, 1) := by decide +kernel
theorem dX7_browsed_19 : decode cX7_browsed 19 = .ok (.invokestatic 81, 3) := by decide +kernel
theorem dX7_browsed_22 : decode cX7_browsed 22 = .ok (.iconst 0, 1) := by decide +kernel
theorem dX7_browsed_23 : decode cX7_browsed 23 = .ok (.iadd, 1) := by decide +kernel
theorem dX7_browsed_24 : decode cX7_browsed 24 = .ok (.iaload, 1) := by decide +kernel
theorem dX7_browsed_25 : decode cX7_browsed 25 = .ok (.iadd, 1) := by decide +kernel
theorem dX7_browsed_26 : decode cX7_browsed 26 = .ok (.istore_n 2, 1) := by decide +kernel
theorem dX7_browsed_27 : decode cX7_browsed 27 = .ok (.iinc 3 1, 3) := by decide +kernel
theorem dX7_browsed_30 : decode cX7_browsed 30 = .ok (.goto (-26), 3) := by decide +kernel
theorem dX7_browsed_33 : decode cX7_browsed 33 = .ok (.iload_n 2, 1) := by decide +kernel
theorem dX7_browsed_34 : decode cX7_browsed 34 = .ok (.ireturn, 1) := by decide +kernel
theorem dX7_count_0 : decode cX7_count 0 = .ok (.aload_n 0, 1) := by decide +kernel
theorem dX7_count_1 : decode cX7_count 1 = .ok (.iload_n 1, 1) := by decide +kernel
theorem dX7_count_2 : decode cX7_count 2 = .ok (.i2l, 1) := by decide +kernel
theorem dX7_count_3 : decode cX7_count 3 = .ok (.lconst 0, 1) := by decide +kernel
theorem dX7_count_4 : decode cX7_count 4 = .ok (.ldc2_w 292, 3) := by decide +kernel
theorem dX7_count_7 : decode cX7_count 7 = .ok (.invokestatic 92, 3) := by decide +kernel
theorem dX7_count_10 : decode cX7_count 10 = .ok (.ifCond .eq 7, 3) := by decide +kernel
theorem dX7_count_13 : decode cX7_count 13 = .ok (.iconst 0, 1) := by decide +kernel
theorem dX7_count_14 : decode cX7_count 14 = .ok (.goto 4, 3) := by decide +kernel
theorem dX7_count_17 : decode cX7_count 17 = .ok (.iconst 1, 1) := by decide +kernel
theorem dX7_count_18 : decode cX7_count 18 = .ok (.putfield 71, 3) := by decide +kernel
theorem dX7_count_21 : decode cX7_count 21 = .ok (.iconst 0, 1) := by decide +kernel
theorem dX7_count_22 : decode cX7_count 22 = .ok (.istore_n 2, 1) := by decide +kernel
theorem dX7_count_23 : decode cX7_count 23 = .ok (.iconst 0, 1) := by decide +kernel
theorem dX7_count_24 : decode cX7_count 24 = .ok (.istore_n 3, 1) := by decide +kernel
theorem dX7_count_25 : decode cX7_count 25 = .ok (.iload_n 3, 1) := by decide +kernel
theorem dX7_count_26 : decode cX7_count 26 = .ok (.aload_n 0, 1) := by decide +kernel
theorem dX7_count_27 : decode cX7_count 27 = .ok (.getfield 199, 3) := by decide +kernel
theorem dX7_count_30 : decode cX7_count 30 = .ok (.if_icmp .ge 17, 3) := by decide +kernel
theorem dX7_count_33 : decode cX7_count 33 = .ok (.iload_n 2, 1) := by decide +kernel
theorem dX7_count_34 : decode cX7_count 34 = .ok (.aload_n 0, 1) := by decide +kernel
theorem dX7_count_35 : decode cX7_count 35 = .ok (.iload_n 3, 1) := by decide +kernel
theorem dX7_count_36 : decode cX7_count 36 = .ok (.invokevirtual 294, 3) := by decide +kernel
theorem dX7_count_39 : decode cX7_count 39 = .ok (.iadd, 1) := by decide +kernel
theorem dX7_count_40 : decode cX7_count 40 = .ok (.istore_n 2, 1) := by decide +kernel
theorem dX7_count_41 : decode cX7_count 41 = .ok (.iinc 3 1, 3) := by decide +kernel
theorem dX7_count_44 : decode cX7_count 44 = .ok (.goto (-19), 3) := by decide +kernel
theorem dX7_count_47 : decode cX7_count 47 = .ok (.aload_n 0, 1) := by decide +kernel
theorem dX7_count_48 : decode cX7_count 48 = .ok (.getfield 71, 3) := by decide +kernel
theorem dX7_count_51 : decode cX7_count 51 = .ok (.ifCond .le 7, 3) := by decide +kernel
theorem dX7_count_54 : decode cX7_count 54 = .ok (.iconst (-1), 1) := by decide +kernel
theorem dX7_count_55 : decode cX7_count 55 = .ok (.goto 4, 3) := by decide +kernel
theorem dX7_count_58 : decode cX7_count 58 = .ok (.iload_n 1, 1) := by decide +kernel
theorem dX7_count_59 : decode cX7_count 59 = .ok (.tableswitch 133 0 11 #[61, 66, 71, 79, 86, 93, 100, 107, 109, 116, 123, 128], 61) := by decide +kernel
theorem dX7_count_120 : decode cX7_count 120 = .ok (.aload_n 0, 1) := by decide +kernel
theorem dX7_count_121 : decode cX7_count 121 = .ok (.getfield 199, 3) := by decide +kernel
theorem dX7_count_124 : decode cX7_count 124 = .ok (.ireturn, 1) := by decide +kernel
theorem dX7_count_125 : decode cX7_count 125 = .ok (.aload_n 0, 1) := by decide +kernel
theorem dX7_count_126 : decode cX7_count 126 = .ok (.getfield 202, 3) := by decide +kernel
theorem dX7_count_129 : decode cX7_count 129 = .ok (.ireturn, 1) := by decide +kernel
theorem dX7_count_130 : decode cX7_count 130 = .ok (.aload_n 0, 1) := by decide +kernel
theorem dX7_count_131 : decode cX7_count 131 = .ok (.getfield 17, 3) := by decide +kernel
theorem dX7_count_134 : decode cX7_count 134 = .ok (.bipush 8, 2) := by decide +kernel
theorem dX7_count_136 : decode cX7_count 136 = .ok (.iaload, 1) := by decide +kernel
theorem dX7_count_137 : decode cX7_count 137 = .ok (.ireturn, 1) := by decide +kernel
theorem dX7_count_138 : decode cX7_count 138 = .ok (.aload_n 0, 1) := by decide +kernel
theorem dX7_count_139 : decode cX7_count 139 = .ok (.getfield 17, 3) := by decide +kernel
theorem dX7_count_142 : decode cX7_count 142 = .ok (.iconst 0, 1) := by decide +kernel
theorem dX7_count_143 : decode cX7_count 143 = .ok (.iaload, 1) := by decide +kernel
theorem dX7_count_144 : decode cX7_count 144 = .ok (.ireturn, 1) := by decide +kernel
theorem dX7_count_145 : decode cX7_count 145 = .ok (.aload_n 0, 1) := by decide +kernel
theorem dX7_count_146 : decode cX7_count 146 = .ok (.getfield 17, 3) := by decide +kernel
theorem dX7_count_149 : decode cX7_count 149 = .ok (.iconst 1, 1) := by decide +kernel
theorem dX7_count_150 : decode cX7_count 150 = .ok (.iaload, 1) := by decide +kernel
theorem dX7_count_151 : decode cX7_count 151 = .ok (.ireturn, 1) := by decide +kernel
theorem dX7_count_152 : decode cX7_count 152 = .ok (.aload_n 0, 1) := by decide +kernel
theorem dX7_count_153 : decode cX7_count 153 = .ok (.getfield 17, 3) := by decide +kernel
theorem dX7_count_156 : decode cX7_count 156 = .ok (.iconst 2, 1) := by decide +kernel
theorem dX7_count_157 : decode cX7_count 157 = .ok (.iaload, 1) := by decide +kernel
theorem dX7_count_158 : decode cX7_count 158 = .ok (.ireturn, 1) := by decide +kernel
theorem dX7_count_159 : decode cX7_count 159 = .ok (.aload_n 0, 1) := by decide +kernel
theorem dX7_count_160 : decode cX7_count 160 = .ok (.getfield 17, 3) := by decide +kernel
theorem dX7_count_163 : decode cX7_count 163 = .ok (.iconst 3, 1) := by decide +kernel
theorem dX7_count_164 : decode cX7_count 164 = .ok (.iaload, 1) := by decide +kernel
theorem dX7_count_165 : decode cX7_count 165 = .ok (.ireturn, 1) := by decide +kernel
theorem dX7_count_166 : decode cX7_count 166 = .ok (.iload_n 2, 1) := by decide +kernel
theorem dX7_count_167 : decode cX7_count 167 = .ok (.ireturn, 1) := by decide +kernel
theorem dX7_count_168 : decode cX7_count 168 = .ok (.aload_n 0, 1) := by decide +kernel
theorem dX7_count_169 : decode cX7_count 169 = .ok (.getfield 17, 3) := by decide +kernel
theorem dX7_count_172 : decode cX7_count 172 = .ok (.iconst 4, 1) := by decide +kernel
theorem dX7_count_173 : decode cX7_count 173 = .ok (.iaload, 1) := by decide +kernel
theorem dX7_count_174 : decode cX7_count 174 = .ok (.ireturn, 1) := by decide +kernel
theorem dX7_count_175 : decode cX7_count 175 = .ok (.aload_n 0, 1) := by decide +kernel
theorem dX7_count_176 : decode cX7_count 176 = .ok (.getfield 17, 3) := by decide +kernel
theorem dX7_count_179 : decode cX7_count 179 = .ok (.iconst 5, 1) := by decide +kernel
theorem dX7_count_180 : decode cX7_count 180 = .ok (.iaload, 1) := by decide +kernel
theorem dX7_count_181 : decode cX7_count 181 = .ok (.ireturn, 1) := by decide +kernel
theorem dX7_count_182 : decode cX7_count 182 = .ok (.aload_n 0, 1) := by decide +kernel
theorem dX7_count_183 : decode cX7_count 183 = .ok (.invokevirtual 297, 3) := by decide +kernel
theorem dX7_count_186 : decode cX7_count 186 = .ok (.ireturn, 1) := by decide +kernel
theorem dX7_count_187 : decode cX7_count 187 = .ok (.aload_n 0, 1) := by decide +kernel
theorem dX7_count_188 : decode cX7_count 188 = .ok (.getfield 205, 3) := by decide +kernel
theorem dX7_count_191 : decode cX7_count 191 = .ok (.ireturn, 1) := by decide +kernel
theorem dX7_count_192 : decode cX7_count 192 = .ok (.iconst 0, 1) := by decide +kernel
theorem dX7_count_193 : decode cX7_count 193 = .ok (.ireturn, 1) := by decide +kernel
theorem dX7_host_0 : decode cX7_host 0 = .ok (.aload_n 0, 1) := by decide +kernel
theorem dX7_host_1 : decode cX7_host 1 = .ok (.aload_n 0, 1) := by decide +kernel
theorem dX7_host_2 : decode cX7_host 2 = .ok (.iload_n 1, 1) := by decide +kernel
theorem dX7_host_3 : decode cX7_host 3 = .ok (.invokevirtual 300, 3) := by decide +kernel
theorem dX7_host_6 : decode cX7_host 6 = .ok (.ifCond .ne 7, 3) := by decide +kernel
theorem dX7_host_9 : decode cX7_host 9 = .ok (.iconst 1, 1) := by decide +kernel
theorem dX7_host_10 : decode cX7_host 10 = .ok (.goto 20, 3) := by decide +kernel
theorem dX7_host_13 : decode cX7_host 13 = .ok (.iload_n 2, 1) := by decide +kernel
theorem dX7_host_14 : decode cX7_host 14 = .ok (.i2l, 1) := by decide +kernel
theorem dX7_host_15 : decode cX7_host 15 = .ok (.lconst 0, 1) := by decide +kernel
theorem dX7_host_16 : decode cX7_host 16 = .ok (.ldc2_w 303, 3) := by decide +kernel
theorem dX7_host_19 : decode cX7_host 19 = .ok (.invokestatic 92, 3) := by decide +kernel
theorem dX7_host_22 : decode cX7_host 22 = .ok (.ifCond .eq 7, 3) := by decide +kernel
theorem dX7_host_25 : decode cX7_host 25 = .ok (.iconst 0, 1) := by decide +kernel
theorem dX7_host_26 : decode cX7_host 26 = .ok (.goto 4, 3) := by decide +kernel
theorem dX7_host_29 : decode cX7_host 29 = .ok (.iconst 2, 1) := by decide +kernel
theorem dX7_host_30 : decode cX7_host 30 = .ok (.putfield 71, 3) := by decide +kernel
theorem dX7_host_33 : decode cX7_host 33 = .ok (.aload_n 0, 1) := by decide +kernel
theorem dX7_host_34 : decode cX7_host 34 = .ok (.getfield 71, 3) := by decide +kernel
theorem dX7_host_37 : decode cX7_host 37 = .ok (.ifCond .le 5, 3) := by decide +kernel
theorem dX7_host_40 : decode cX7_host 40 = .ok (.iconst 0, 1) := by decide +kernel
theorem dX7_host_41 : decode cX7_host 41 = .ok (.ireturn, 1) := by decide +kernel
theorem dX7_host_42 : decode cX7_host 42 = .ok (.iconst 0, 1) := by decide +kernel
theorem dX7_host_43 : decode cX7_host 43 = .ok (.istore_n 3, 1) := by decide +kernel
theorem dX7_host_44 : decode cX7_host 44 = .ok (.iconst 0, 1) := by decide +kernel
theorem dX7_host_45 : decode cX7_host 45 = .ok (.istore 4, 2) := by decide +kernel
theorem dX7_host_47 : decode cX7_host 47 = .ok (.iload 4, 2) := by decide +kernel
theorem dX7_host_49 : decode cX7_host 49 = .ok (.aload_n 0, 1) := by decide +kernel
theorem dX7_host_50 : decode cX7_host 50 = .ok (.getfield 17, 3) := by decide +kernel
theorem dX7_host_53 : decode cX7_host 53 = .ok (.bipush 8, 2) := by decide +kernel
theorem dX7_host_55 : decode cX7_host 55 = .ok (.iaload, 1) := by decide +kernel
theorem dX7_host_56 : decode cX7_host 56 = .ok (.if_icmp .ge 50, 3) := by decide +kernel
theorem dX7_host_59 : decode cX7_host 59 = .ok (.iload_n 3, 1) := by decide +kernel
theorem dX7_host_60 : decode cX7_host 60 = .ok (.aload_n 0, 1) := by decide +kernel
theorem dX7_host_61 : decode cX7_host 61 = .ok (.getfield 17, 3) := by decide +kernel
theorem dX7_host_64 : decode cX7_host 64 = .ok (.iload 4, 2) := by decide +kernel
theorem dX7_host_66 : decode cX7_host 66 = .ok (.invokestatic 74, 3) := by decide +kernel
theorem dX7_host_69 : decode cX7_host 69 = .ok (.iconst 0, 1) := by decide +kernel
theorem dX7_host_70 : decode cX7_host 70 = .ok (.iadd, 1) := by decide +kernel
theorem dX7_host_71 : decode cX7_host 71 = .ok (.iaload, 1) := by decide +kernel
theorem dX7_host_72 : decode cX7_host 72 = .ok (.iload_n 1, 1) := by decide +kernel
theorem dX7_host_73 : decode cX7_host 73 = .ok (.if_icmp .ne 24, 3) := by decide +kernel
theorem dX7_host_76 : decode cX7_host 76 = .ok (.aload_n 0, 1) := by decide +kernel
theorem dX7_host_77 : decode cX7_host 77 = .ok (.getfield 17, 3) := by decide +kernel
theorem dX7_host_80 : decode cX7_host 80 = .ok (.iload 4, 2) := by decide +kernel
theorem dX7_host_82 : decode cX7_host 82 = .ok (.invokestatic 74, 3) := by decide +kernel
theorem dX7_host_85 : decode cX7_host 85 = .ok (.bipush 6, 2) := by decide +kernel
theorem dX7_host_87 : decode cX7_host 87 = .ok (.iadd, 1) := by decide +kernel
theorem dX7_host_88 : decode cX7_host 88 = .ok (.iaload, 1) := by decide +kernel
theorem dX7_host_89 : decode cX7_host 89 = .ok (.iconst 3, 1) := by decide +kernel
theorem dX7_host_90 : decode cX7_host 90 = .ok (.if_icmp .eq 7, 3) := by decide +kernel
theorem dX7_host_93 : decode cX7_host 93 = .ok (.iconst 1, 1) := by decide +kernel
theorem dX7_host_94 : decode cX7_host 94 = .ok (.goto 4, 3) := by decide +kernel
theorem dX7_host_97 : decode cX7_host 97 = .ok (.iconst 0, 1) := by decide +kernel
theorem dX7_host_98 : decode cX7_host 98 = .ok (.iadd, 1) := by decide +kernel
theorem dX7_host_99 : decode cX7_host 99 = .ok (.istore_n 3, 1) := by decide +kernel
theorem dX7_host_100 : decode cX7_host 100 = .ok (.iinc 4 1, 3) := by decide +kernel
theorem dX7_host_103 : decode cX7_host 103 = .ok (.goto (-56), 3) := by decide +kernel
theorem dX7_host_106 : decode cX7_host 106 = .ok (.iload_n 1, 1) := by decide +kernel
theorem dX7_host_107 : decode cX7_host 107 = .ok (.invokestatic 78, 3) := by decide +kernel
theorem dX7_host_110 : decode cX7_host 110 = .ok (.istore 4, 2) := by decide +kernel
theorem dX7_host_112 : decode cX7_host 112 = .ok (.iload_n 2, 1) := by decide +kernel
theorem dX7_host_113 : decode cX7_host 113 = .ok (.tableswitch 73 0 4 #[35, 45, 55, 57, 67], 35) := by decide +kernel
theorem dX7_host_148 : decode cX7_host 148 = .ok (.aload_n 0, 1) := by decide +kernel
theorem dX7_host_149 : decode cX7_host 149 = .ok (.getfield 17, 3) := by decide +kernel
theorem dX7_host_152 : decode cX7_host 152 = .ok (.iload 4, 2) := by decide +kernel
theorem dX7_host_154 : decode cX7_host 154 = .ok (.iconst 0, 1) := by decide +kernel
theorem dX7_host_155 : decode cX7_host 155 = .ok (.iadd, 1) := by decide +kernel
theorem dX7_host_156 : decode cX7_host 156 = .ok (.iaload, 1) := by decide +kernel
theorem dX7_host_157 : decode cX7_host 157 = .ok (.ireturn, 1) := by decide +kernel
theorem dX7_host_158 : decode cX7_host 158 = .ok (.aload_n 0, 1) := by decide +kernel
theorem dX7_host_159 : decode cX7_host 159 = .ok (.getfield 17, 3) := by decide +kernel
theorem dX7_host_162 : decode cX7_host 162 = .ok (.iload 4, 2) := by decide +kernel
theorem dX7_host_164 : decode cX7_host 164 = .ok (.iconst 1, 1) := by decide +kernel
theorem dX7_host_165 : decode cX7_host 165 = .ok (.iadd, 1) := by decide +kernel
theorem dX7_host_166 : decode cX7_host 166 = .ok (.iaload, 1) := by decide +kernel
theorem dX7_host_167 : decode cX7_host 167 = .ok (.ireturn, 1) := by decide +kernel
theorem dX7_host_168 : decode cX7_host 168 = .ok (.iload_n 3, 1) := by decide +kernel
theorem dX7_host_169 : decode cX7_host 169 = .ok (.ireturn, 1) := by decide +kernel
theorem dX7_host_170 : decode cX7_host 170 = .ok (.aload_n 0, 1) := by decide +kernel
theorem dX7_host_171 : decode cX7_host 171 = .ok (.getfield 17, 3) := by decide +kernel
theorem dX7_host_174 : decode cX7_host 174 = .ok (.iload 4, 2) := by decide +kernel
theorem dX7_host_176 : decode cX7_host 176 = .ok (.iconst 3, 1) := by decide +kernel
theorem dX7_host_177 : decode cX7_host 177 = .ok (.iadd, 1) := by decide +kernel
theorem dX7_host_178 : decode cX7_host 178 = .ok (.iaload, 1) := by decide +kernel
theorem dX7_host_179 : decode cX7_host 179 = .ok (.ireturn, 1) := by decide +kernel
theorem dX7_host_180 : decode cX7_host 180 = .ok (.aload_n 0, 1) := by decide +kernel
theorem dX7_host_181 : decode cX7_host 181 = .ok (.iload_n 1, 1) := by decide +kernel
theorem dX7_host_182 : decode cX7_host 182 = .ok (.invokevirtual 294, 3) := by decide +kernel
theorem dX7_host_185 : decode cX7_host 185 = .ok (.ireturn, 1) := by decide +kernel
theorem dX7_host_186 : decode cX7_host 186 = .ok (.aload_n 0, 1) := by decide +kernel
theorem dX7_host_187 : decode cX7_host 187 = .ok (.getfield 17, 3) := by decide +kernel
theorem dX7_host_190 : decode cX7_host 190 = .ok (.iload 4, 2) := by decide +kernel
theorem dX7_host_192 : decode cX7_host 192 = .ok (.iconst 2, 1) := by decide +kernel
theorem dX7_host_193 : decode cX7_host 193 = .ok (.iadd, 1) := by decide +kernel
theorem dX7_host_194 : decode cX7_host 194 = .ok (.iaload, 1) := by decide +kernel
theorem dX7_host_195 : decode cX7_host 195 = .ok (.ireturn, 1) := by decide +kernel
theorem dX7_service__0 : decode cX7_service_ 0 = .ok (.aload_n 0, 1) := by decide +kernel
theorem dX7_service__1 : decode cX7_service_ 1 = .ok (.aload_n 0, 1) := by decide +kernel
theorem dX7_service__2 : decode cX7_service_ 2 = .ok (.iload_n 1, 1) := by decide +kernel
theorem dX7_service__3 : decode cX7_service_ 3 = .ok (.invokevirtual 305, 3) := by decide +kernel
theorem dX7_service__6 : decode cX7_service_ 6 = .ok (.ifCond .ne 7, 3) := by decide +kernel
theorem dX7_service__9 : decode cX7_service_ 9 = .ok (.iconst 1, 1) := by decide +kernel
theorem dX7_service__10 : decode cX7_service_ 10 = .ok (.goto 20, 3) := by decide +kernel
theorem dX7_service__13 : decode cX7_service_ 13 = .ok (.iload_n 2, 1) := by decide +kernel
theorem dX7_service__14 : decode cX7_service_ 14 = .ok (.i2l, 1) := by decide +kernel
theorem dX7_service__15 : decode cX7_service_ 15 = .ok (.lconst 0, 1) := by decide +kernel
theorem dX7_service__16 : decode cX7_service_ 16 = .ok (.ldc2_w 308, 3) := by decide +kernel
theorem dX7_service__19 : decode cX7_service_ 19 = .ok (.invokestatic 92, 3) := by decide +kernel
theorem dX7_service__22 : decode cX7_service_ 22 = .ok (.ifCond .eq 7, 3) := by decide +kernel
theorem dX7_service__25 : decode cX7_service_ 25 = .ok (.iconst 0, 1) := by decide +kernel
theorem dX7_service__26 : decode cX7_service_ 26 = .ok (.goto 4, 3) := by decide +kernel
theorem dX7_service__29 : decode cX7_service_ 29 = .ok (.iconst 2, 1) := by decide +kernel
theorem dX7_service__30 : decode cX7_service_ 30 = .ok (.putfield 71, 3) := by decide +kernel
theorem dX7_service__33 : decode cX7_service_ 33 = .ok (.aload_n 0, 1) := by decide +kernel
theorem dX7_service__34 : decode cX7_service_ 34 = .ok (.getfield 71, 3) := by decide +kernel
theorem dX7_service__37 : decode cX7_service_ 37 = .ok (.ifCond .le 7, 3) := by decide +kernel
theorem dX7_service__40 : decode cX7_service_ 40 = .ok (.iconst 0, 1) := by decide +kernel
theorem dX7_service__41 : decode cX7_service_ 41 = .ok (.goto 25, 3) := by decide +kernel
theorem dX7_service__44 : decode cX7_service_ 44 = .ok (.aload_n 0, 1) := by decide +kernel
theorem dX7_service__45 : decode cX7_service_ 45 = .ok (.getfield 17, 3) := by decide +kernel
theorem dX7_service__48 : decode cX7_service_ 48 = .ok (.iload_n 1, 1) := by decide +kernel
theorem dX7_service__49 : decode cX7_service_ 49 = .ok (.invokestatic 74, 3) := by decide +kernel
theorem dX7_service__52 : decode cX7_service_ 52 = .ok (.iload_n 2, 1) := by decide +kernel
theorem dX7_service__53 : decode cX7_service_ 53 = .ok (.iconst 2, 1) := by decide +kernel
theorem dX7_service__54 : decode cX7_service_ 54 = .ok (.if_icmp .ge 7, 3) := by decide +kernel
theorem dX7_service__57 : decode cX7_service_ 57 = .ok (.iload_n 2, 1) := by decide +kernel
theorem dX7_service__58 : decode cX7_service_ 58 = .ok (.goto 6, 3) := by decide +kernel
theorem dX7_service__61 : decode cX7_service_ 61 = .ok (.iload_n 2, 1) := by decide +kernel
theorem dX7_service__62 : decode cX7_service_ 62 = .ok (.iconst 1, 1) := by decide +kernel
theorem dX7_service__63 : decode cX7_service_ 63 = .ok (.iadd, 1) := by decide +kernel
theorem dX7_service__64 : decode cX7_service_ 64 = .ok (.iadd, 1) := by decide +kernel
theorem dX7_service__65 : decode cX7_service_ 65 = .ok (.iaload, 1) := by decide +kernel
theorem dX7_service__66 : decode cX7_service_ 66 = .ok (.ireturn, 1) := by decide +kernel
theorem dX7_letterOf_0 : decode cX7_letterOf 0 = .ok (.iconst 0, 1) := by decide +kernel
theorem dX7_letterOf_1 : decode cX7_letterOf 1 = .ok (.istore_n 2, 1) := by decide +kernel
theorem dX7_letterOf_2 : decode cX7_letterOf 2 = .ok (.iload_n 0, 1) := by decide +kernel
theorem dX7_letterOf_3 : decode cX7_letterOf 3 = .ok (.istore_n 3, 1) := by decide +kernel
theorem dX7_letterOf_4 : decode cX7_letterOf 4 = .ok (.iload_n 3, 1) := by decide +kernel
theorem dX7_letterOf_5 : decode cX7_letterOf 5 = .ok (.ifCond .le 14, 3) := by decide +kernel
theorem dX7_letterOf_8 : decode cX7_letterOf 8 = .ok (.iinc 2 1, 3) := by decide +kernel
theorem dX7_letterOf_11 : decode cX7_letterOf 11 = .ok (.iload_n 3, 1) := by decide +kernel
theorem dX7_letterOf_12 : decode cX7_letterOf 12 = .ok (.bipush 27, 2) := by decide +kernel
theorem dX7_letterOf_14 : decode cX7_letterOf 14 = .ok (.idiv, 1) := by decide +kernel
theorem dX7_letterOf_15 : decode cX7_letterOf 15 = .ok (.istore_n 3, 1) := by decide +kernel
theorem dX7_letterOf_16 : decode cX7_letterOf 16 = .ok (.goto (-12), 3) := by decide +kernel
theorem dX7_letterOf_19 : decode cX7_letterOf 19 = .ok (.iload_n 1, 1) := by decide +kernel
theorem dX7_letterOf_20 : decode cX7_letterOf 20 = .ok (.i2l, 1) := by decide +kernel
theorem dX7_letterOf_21 : decode cX7_letterOf 21 = .ok (.lconst 0, 1) := by decide +kernel
theorem dX7_letterOf_22 : decode cX7_letterOf 22 = .ok (.iload_n 2, 1) := by decide +kernel
theorem dX7_letterOf_23 : decode cX7_letterOf 23 = .ok (.iconst 1, 1) := by decide +kernel
theorem dX7_letterOf_24 : decode cX7_letterOf 24 = .ok (.isub, 1) := by decide +kernel
theorem dX7_letterOf_25 : decode cX7_letterOf 25 = .ok (.i2l, 1) := by decide +kernel
theorem dX7_letterOf_26 : decode cX7_letterOf 26 = .ok (.invokestatic 92, 3) := by decide +kernel
theorem dX7_letterOf_29 : decode cX7_letterOf 29 = .ok (.ifCond .ne 5, 3) := by decide +kernel
theorem dX7_letterOf_32 : decode cX7_letterOf 32 = .ok (.iconst (-1), 1) := by decide +kernel
theorem dX7_letterOf_33 : decode cX7_letterOf 33 = .ok (.ireturn, 1) := by decide +kernel
theorem dX7_letterOf_34 : decode cX7_letterOf 34 = .ok (.iload_n 0, 1) := by decide +kernel
theorem dX7_letterOf_35 : decode cX7_letterOf 35 = .ok (.istore_n 3, 1) := by decide +kernel
theorem dX7_letterOf_36 : decode cX7_letterOf 36 = .ok (.iload_n 2, 1) := by decide +kernel
theorem dX7_letterOf_37 : decode cX7_letterOf 37 = .ok (.iconst 1, 1) := by decide +kernel
theorem dX7_letterOf_38 : decode cX7_letterOf 38 = .ok (.isub, 1) := by decide +kernel
theorem dX7_letterOf_39 : decode cX7_letterOf 39 = .ok (.istore 4, 2) := by decide +kernel
theorem dX7_letterOf_41 : decode cX7_letterOf 41 = .ok (.iload 4, 2) := by decide +kernel
theorem dX7_letterOf_43 : decode cX7_letterOf 43 = .ok (.iload_n 1, 1) := by decide +kernel
theorem dX7_letterOf_44 : decode cX7_letterOf 44 = .ok (.if_icmp .le 14, 3) := by decide +kernel
theorem dX7_letterOf_47 : decode cX7_letterOf 47 = .ok (.iload_n 3, 1) := by decide +kernel
theorem dX7_letterOf_48 : decode cX7_letterOf 48 = .ok (.bipush 27, 2) := by decide +kernel
theorem dX7_letterOf_50 : decode cX7_letterOf 50 = .ok (.idiv, 1) := by decide +kernel
theorem dX7_letterOf_51 : decode cX7_letterOf 51 = .ok (.istore_n 3, 1) := by decide +kernel
theorem dX7_letterOf_52 : decode cX7_letterOf 52 = .ok (.iinc 4 (-1), 3) := by decide +kernel
theorem dX7_letterOf_55 : decode cX7_letterOf 55 = .ok (.goto (-14), 3) := by decide +kernel
theorem dX7_letterOf_58 : decode cX7_letterOf 58 = .ok (.iload_n 3, 1) := by decide +kernel
theorem dX7_letterOf_59 : decode cX7_letterOf 59 = .ok (.bipush 27, 2) := by decide +kernel
theorem dX7_letterOf_61 : decode cX7_letterOf 61 = .ok (.irem, 1) := by decide +kernel
theorem dX7_letterOf_62 : decode cX7_letterOf 62 = .ok (.bipush 97, 2) := by decide +kernel
theorem dX7_letterOf_64 : decode cX7_letterOf 64 = .ok (.iadd, 1) := by decide +kernel
theorem dX7_letterOf_65 : decode cX7_letterOf 65 = .ok (.iconst 1, 1) := by decide +kernel
theorem dX7_letterOf_66 : decode cX7_letterOf 66 = .ok (.isub, 1) := by decide +kernel
theorem dX7_letterOf_67 : decode cX7_letterOf 67 = .ok (.ireturn, 1) := by decide +kernel
theorem dX7_baseByte_0 : decode cX7_baseByte 0 = .ok (.aload_n 0, 1) := by decide +kernel
theorem dX7_baseByte_1 : decode cX7_baseByte 1 = .ok (.aload_n 0, 1) := by decide +kernel
theorem dX7_baseByte_2 : decode cX7_baseByte 2 = .ok (.iload_n 1, 1) := by decide +kernel
theorem dX7_baseByte_3 : decode cX7_baseByte 3 = .ok (.invokevirtual 305, 3) := by decide +kernel
theorem dX7_baseByte_6 : decode cX7_baseByte 6 = .ok (.ifCond .eq 7, 3) := by decide +kernel
theorem dX7_baseByte_9 : decode cX7_baseByte 9 = .ok (.iconst 0, 1) := by decide +kernel
theorem dX7_baseByte_10 : decode cX7_baseByte 10 = .ok (.goto 4, 3) := by decide +kernel
theorem dX7_baseByte_13 : decode cX7_baseByte 13 = .ok (.iconst 1, 1) := by decide +kernel
theorem dX7_baseByte_14 : decode cX7_baseByte 14 = .ok (.putfield 71, 3) := by decide +kernel
theorem dX7_baseByte_17 : decode cX7_baseByte 17 = .ok (.aload_n 0, 1) := by decide +kernel
theorem dX7_baseByte_18 : decode cX7_baseByte 18 = .ok (.getfield 71, 3) := by decide +kernel
theorem dX7_baseByte_21 : decode cX7_baseByte 21 = .ok (.ifCond .le 7, 3) := by decide +kernel
theorem dX7_baseByte_24 : decode cX7_baseByte 24 = .ok (.iconst 0, 1) := by decide +kernel
theorem dX7_baseByte_25 : decode cX7_baseByte 25 = .ok (.goto 18, 3) := by decide +kernel
theorem dX7_baseByte_28 : decode cX7_baseByte 28 = .ok (.aload_n 0, 1) := by decide +kernel
theorem dX7_baseByte_29 : decode cX7_baseByte 29 = .ok (.getfield 17, 3) := by decide +kernel
theorem dX7_baseByte_32 : decode cX7_baseByte 32 = .ok (.iload_n 1, 1) := by decide +kernel
theorem dX7_baseByte_33 : decode cX7_baseByte 33 = .ok (.invokestatic 74, 3) := by decide +kernel
theorem dX7_baseByte_36 : decode cX7_baseByte 36 = .ok (.iconst 2, 1) := by decide +kernel
theorem dX7_baseByte_37 : decode cX7_baseByte 37 = .ok (.iadd, 1) := by decide +kernel
theorem dX7_baseByte_38 : decode cX7_baseByte 38 = .ok (.iaload, 1) := by decide +kernel
theorem dX7_baseByte_39 : decode cX7_baseByte 39 = .ok (.iload_n 2, 1) := by decide +kernel
theorem dX7_baseByte_40 : decode cX7_baseByte 40 = .ok (.invokestatic 310, 3) := by decide +kernel
theorem dX7_baseByte_43 : decode cX7_baseByte 43 = .ok (.ireturn, 1) := by decide +kernel
theorem dX7_haveSameName_0 : decode cX7_haveSameName 0 = .ok (.aload_n 0, 1) := by decide +kernel
theorem dX7_haveSameName_1 : decode cX7_haveSameName 1 = .ok (.aload_n 0, 1) := by decide +kernel
theorem dX7_haveSameName_2 : decode cX7_haveSameName 2 = .ok (.iload_n 1, 1) := by decide +kernel
theorem dX7_haveSameName_3 : decode cX7_haveSameName 3 = .ok (.invokevirtual 305, 3) := by decide +kernel
theorem dX7_haveSameName_6 : decode cX7_haveSameName 6 = .ok (.ifCond .eq 15, 3) := by decide +kernel
theorem dX7_haveSameName_9 : decode cX7_haveSameName 9 = .ok (.aload_n 0, 1) := by decide +kernel
theorem dX7_haveSameName_10 : decode cX7_haveSameName 10 = .ok (.iload_n 2, 1) := by decide +kernel
theorem dX7_haveSameName_11 : decode cX7_haveSameName 11 = .ok (.invokevirtual 305, 3) := by decide +kernel
theorem dX7_haveSameName_14 : decode cX7_haveSameName 14 = .ok (.ifCond .eq 7, 3) := by decide +kernel
theorem dX7_haveSameName_17 : decode cX7_haveSameName 17 = .ok (.iconst 0, 1) := by decide +kernel
theorem dX7_haveSameName_18 : decode cX7_haveSameName 18 = .ok (.goto 4, 3) := by decide +kernel
theorem dX7_haveSameName_21 : decode cX7_haveSameName 21 = .ok (.iconst 1, 1) := by decide +kernel
theorem dX7_haveSameName_22 : decode cX7_haveSameName 22 = .ok (.putfield 71, 3) := by decide +kernel
theorem dX7_haveSameName_25 : decode cX7_haveSameName 25 = .ok (.aload_n 0, 1) := by decide +kernel
theorem dX7_haveSameName_26 : decode cX7_haveSameName 26 = .ok (.getfield 71, 3) := by decide +kernel
theorem dX7_haveSameName_29 : decode cX7_haveSameName 29 = .ok (.ifCond .ne 26, 3) := by decide +kernel
theorem dX7_haveSameName_32 : decode cX7_haveSameName 32 = .ok (.aload_n 0, 1) := by decide +kernel
theorem dX7_haveSameName_33 : decode cX7_haveSameName 33 = .ok (.iload_n 1, 1) := by decide +kernel
theorem dX7_haveSameName_34 : decode cX7_haveSameName 34 = .ok (.invokestatic 74, 3) := by decide +kernel
theorem dX7_haveSameName_37 : decode cX7_haveSameName 37 = .ok (.iconst 1, 1) := by decide +kernel
theorem dX7_haveSameName_38 : decode cX7_haveSameName 38 = .ok (.iadd, 1) := by decide +kernel
theorem dX7_haveSameName_39 : decode cX7_haveSameName 39 = .ok (.iload_n 2, 1) := by decide +kernel
theorem dX7_haveSameName_40 : decode cX7_haveSameName 40 = .ok (.invokestatic 74, 3) := by decide +kernel
theorem dX7_haveSameName_43 : decode cX7_haveSameName 43 = .ok (.iconst 1, 1) := by decide +kernel
theorem dX7_haveSameName_44 : decode cX7_haveSameName 44 = .ok (.iadd, 1) := by decide +kernel
theorem dX7_haveSameName_45 : decode cX7_haveSameName 45 = .ok (.invokevirtual 230, 3) := by decide +kernel
theorem dX7_haveSameName_48 : decode cX7_haveSameName 48 = .ok (.ifCond .eq 7, 3) := by decide +kernel
theorem dX7_haveSameName_51 : decode cX7_haveSameName 51 = .ok (.iconst 1, 1) := by decide +kernel
theorem dX7_haveSameName_52 : decode cX7_haveSameName 52 = .ok (.goto 4, 3) := by decide +kernel
theorem dX7_haveSameName_55 : decode cX7_haveSameName 55 = .ok (.iconst 0, 1) := by decide +kernel
theorem dX7_haveSameName_56 : decode cX7_haveSameName 56 = .ok (.ireturn, 1) := by decide +kernel
theorem dX7_isRecord_0 : decode cX7_isRecord 0 = .ok (.aload_n 0, 1) := by decide +kernel
theorem dX7_isRecord_1 : decode cX7_isRecord 1 = .ok (.iload_n 1, 1) := by decide +kernel
theorem dX7_isRecord_2 : decode cX7_isRecord 2 = .ok (.invokevirtual 300, 3) := by decide +kernel
theorem dX7_isRecord_5 : decode cX7_isRecord 5 = .ok (.ifCond .eq 30, 3) := by decide +kernel
theorem dX7_isRecord_8 : decode cX7_isRecord 8 = .ok (.iload_n 2, 1) := by decide +kernel
theorem dX7_isRecord_9 : decode cX7_isRecord 9 = .ok (.i2l, 1) := by decide +kernel
theorem dX7_isRecord_10 : decode cX7_isRecord 10 = .ok (.lconst 0, 1) := by decide +kernel
theorem dX7_isRecord_11 : decode cX7_isRecord 11 = .ok (.aload_n 0, 1) := by decide +kernel
theorem dX7_isRecord_12 : decode cX7_isRecord 12 = .ok (.getfield 17, 3) := by decide +kernel
theorem dX7_isRecord_15 : decode cX7_isRecord 15 = .ok (.iload_n 1, 1) := by decide +kernel
theorem dX7_isRecord_16 : decode cX7_isRecord 16 = .ok (.invokestatic 78, 3) := by decide +kernel
theorem dX7_isRecord_19 : decode cX7_isRecord 19 = .ok (.iconst 3, 1) := by decide +kernel
theorem dX7_isRecord_20 : decode cX7_isRecord 20 = .ok (.iadd, 1) := by decide +kernel
theorem dX7_isRecord_21 : decode cX7_isRecord 21 = .ok (.iaload, 1) := by decide +kernel
theorem dX7_isRecord_22 : decode cX7_isRecord 22 = .ok (.iconst 1, 1) := by decide +kernel
theorem dX7_isRecord_23 : decode cX7_isRecord 23 = .ok (.isub, 1) := by decide +kernel
theorem dX7_isRecord_24 : decode cX7_isRecord 24 = .ok (.i2l, 1) := by decide +kernel
theorem dX7_isRecord_25 : decode cX7_isRecord 25 = .ok (.invokestatic 92, 3) := by decide +kernel
theorem dX7_isRecord_28 : decode cX7_isRecord 28 = .ok (.ifCond .eq 7, 3) := by decide +kernel
theorem dX7_isRecord_31 : decode cX7_isRecord 31 = .ok (.iconst 1, 1) := by decide +kernel
theorem dX7_isRecord_32 : decode cX7_isRecord 32 = .ok (.goto 4, 3) := by decide +kernel
theorem dX7_isRecord_35 : decode cX7_isRecord 35 = .ok (.iconst 0, 1) := by decide +kernel
theorem dX7_isRecord_36 : decode cX7_isRecord 36 = .ok (.ireturn, 1) := by decide +kernel
theorem dX7_record_0 : decode cX7_record 0 = .ok (.aload_n 0, 1) := by decide +kernel
theorem dX7_record_1 : decode cX7_record 1 = .ok (.aload_n 0, 1) := by decide +kernel
theorem dX7_record_2 : decode cX7_record 2 = .ok (.iload_n 1, 1) := by decide +kernel
theorem dX7_record_3 : decode cX7_record 3 = .ok (.iload_n 2, 1) := by decide +kernel
theorem dX7_record_4 : decode cX7_record 4 = .ok (.invokevirtual 313, 3) := by decide +kernel
theorem dX7_record_7 : decode cX7_record 7 = .ok (.ifCond .ne 7, 3) := by decide +kernel
theorem dX7_record_10 : decode cX7_record 10 = .ok (.iconst 1, 1) := by decide +kernel
theorem dX7_record_11 : decode cX7_record 11 = .ok (.goto 20, 3) := by decide +kernel
theorem dX7_record_31 : decode cX7_record 31 = .ok (.putfield 71, 3) := by decide +kernel
theorem dX7_record_34 : decode cX7_record 34 = .ok (.aload_n 0, 1) := by decide +kernel
theorem dX7_record_35 : decode cX7_record 35 = .ok (.getfield 71, 3) := by decide +kernel
theorem dX7_record_38 : decode cX7_record 38 = .ok (.ifCond .le 5, 3) := by decide +kernel
theorem dX7_record_41 : decode cX7_record 41 = .ok (.iconst 0, 1) := by decide +kernel
theorem dX7_record_42 : decode cX7_record 42 = .ok (.ireturn, 1) := by decide +kernel
theorem dX7_recordByte_0 : decode cX7_recordByte 0 = .ok (.aload_n 0, 1) := by decide +kernel
theorem dX7_recordByte_1 : decode cX7_recordByte 1 = .ok (.aload_n 0, 1) := by decide +kernel
theorem dX7_recordByte_2 : decode cX7_recordByte 2 = .ok (.iload_n 1, 1) := by decide +kernel
theorem dX7_recordByte_3 : decode cX7_recordByte 3 = .ok (.iload_n 2, 1) := by decide +kernel
theorem dX7_recordByte_4 : decode cX7_recordByte 4 = .ok (.invokevirtual 313, 3) := by decide +kernel
theorem dX7_recordByte_7 : decode cX7_recordByte 7 = .ok (.ifCond .eq 7, 3) := by decide +kernel
theorem dX7_recordByte_10 : decode cX7_recordByte 10 = .ok (.iconst 0, 1) := by decide +kernel
theorem dX7_recordByte_11 : decode cX7_recordByte 11 = .ok (.goto 4, 3) := by decide +kernel
theorem dX7_recordByte_14 : decode cX7_recordByte 14 = .ok (.iconst 1, 1) := by decide +kernel
theorem dX7_recordByte_15 : decode cX7_recordByte 15 = .ok (.putfield 71, 3) := by decide +kernel
theorem dX7_recordByte_18 : decode cX7_recordByte 18 = .ok (.aload_n 0, 1) := by decide +kernel
theorem dX7_recordByte_19 : decode cX7_recordByte 19 = .ok (.getfield 71, 3) := by decide +kernel
theorem dX7_recordByte_22 : decode cX7_recordByte 22 = .ok (.ifCond .le 7, 3) := by decide +kernel
theorem dX7_recordByte_25 : decode cX7_recordByte 25 = .ok (.iconst 0, 1) := by decide +kernel
theorem dX7_recordByte_26 : decode cX7_recordByte 26 = .ok (.goto 19, 3) := by decide +kernel
theorem dX7_recordByte_45 : decode cX7_recordByte 45 = .ok (.ireturn, 1) := by decide +kernel
theorem dX7_browser_0 : decode cX7_browser 0 = .ok (.aload_n 0, 1) := by decide +kernel
theorem dX7_browser_1 : decode cX7_browser 1 = .ok (.aload_n 0, 1) := by decide +kernel
theorem dX7_browser_2 : decode cX7_browser 2 = .ok (.iload_n 1, 1) := by decide +kernel
theorem dX7_browser_3 : decode cX7_browser 3 = .ok (.invokevirtual 300, 3) := by decide +kernel
theorem dX7_browser_6 : decode cX7_browser 6 = .ok (.ifCond .eq 11, 3) := by decide +kernel
theorem dX7_browser_9 : decode cX7_browser 9 = .ok (.aload_n 0, 1) := by decide +kernel
theorem dX7_browser_10 : decode cX7_browser 10 = .ok (.iload_n 2, 1) := by decide +kernel
theorem dX7_browser_11 : decode cX7_browser 11 = .ok (.invokevirtual 318, 3) := by decide +kernel
theorem dX7_browser_14 : decode cX7_browser 14 = .ok (.ifCond .ne 7, 3) := by decide +kernel
theorem dX7_browser_17 : decode cX7_browser 17 = .ok (.iconst 1, 1) := by decide +kernel
theorem dX7_browser_18 : decode cX7_browser 18 = .ok (.goto 20, 3) := by decide +kernel
theorem dX7_browser_21 : decode cX7_browser 21 = .ok (.iload_n 3, 1) := by decide +kernel
theorem dX7_browser_22 : decode cX7_browser 22 = .ok (.i2l, 1) := by decide +kernel
theorem dX7_browser_23 : decode cX7_browser 23 = .ok (.lconst 0, 1) := by decide +kernel
theorem dX7_browser_24 : decode cX7_browser 24 = .ok (.ldc2_w 321, 3) := by decide +kernel
theorem dX7_browser_27 : decode cX7_browser 27 = .ok (.invokestatic 92, 3) := by decide +kernel
theorem dX7_browser_30 : decode cX7_browser 30 = .ok (.ifCond .eq 7, 3) := by decide +kernel
theorem dX7_browser_33 : decode cX7_browser 33 = .ok (.iconst 0, 1) := by decide +kernel
theorem dX7_browser_34 : decode cX7_browser 34 = .ok (.goto 4, 3) := by decide +kernel
theorem dX7_browser_37 : decode cX7_browser 37 = .ok (.iconst 2, 1) := by decide +kernel
theorem dX7_browser_38 : decode cX7_browser 38 = .ok (.putfield 71, 3) := by decide +kernel
theorem dX7_browser_41 : decode cX7_browser 41 = .ok (.aload_n 0, 1) := by decide +kernel
theorem dX7_browser_42 : decode cX7_browser 42 = .ok (.getfield 71, 3) := by decide +kernel
theorem dX7_browser_45 : decode cX7_browser 45 = .ok (.ifCond .le 5, 3) := by decide +kernel
theorem dX7_browser_48 : decode cX7_browser 48 = .ok (.iconst 0, 1) := by decide +kernel
theorem dX7_browser_49 : decode cX7_browser 49 = .ok (.ireturn, 1) := by decide +kernel
theorem dX7_browser_50 : decode cX7_browser 50 = .ok (.iload_n 1, 1) := by decide +kernel
theorem dX7_browser_51 : decode cX7_browser 51 = .ok (.iload_n 2, 1) := by decide +kernel
theorem dX7_browser_52 : decode cX7_browser 52 = .ok (.invokestatic 81, 3) := by decide +kernel
theorem dX7_browser_55 : decode cX7_browser 55 = .ok (.istore 4, 2) := by decide +kernel
theorem dX7_browser_57 : decode cX7_browser 57 = .ok (.aload_n 0, 1) := by decide +kernel
theorem dX7_browser_58 : decode cX7_browser 58 = .ok (.getfield 17, 3) := by decide +kernel
theorem dX7_browser_61 : decode cX7_browser 61 = .ok (.iload 4, 2) := by decide +kernel
theorem dX7_browser_63 : decode cX7_browser 63 = .ok (.iconst 0, 1) := by decide +kernel
theorem dX7_browser_64 : decode cX7_browser 64 = .ok (.iadd, 1) := by decide +kernel
theorem dX7_browser_65 : decode cX7_browser 65 = .ok (.iaload, 1) := by decide +kernel
theorem dX7_browser_66 : decode cX7_browser 66 = .ok (.ifCond .ne 7, 3) := by decide +kernel
theorem dX7_browser_69 : decode cX7_browser 69 = .ok (.iconst (-1), 1) := by decide +kernel
theorem dX7_browser_70 : decode cX7_browser 70 = .ok (.goto 14, 3) := by decide +kernel
theorem dX7_browser_73 : decode cX7_browser 73 = .ok (.aload_n 0, 1) := by decide +kernel
theorem dX7_browser_74 : decode cX7_browser 74 = .ok (.getfield 17, 3) := by decide +kernel
theorem dX7_browser_77 : decode cX7_browser 77 = .ok (.iload 4, 2) := by decide +kernel
theorem dX7_browser_79 : decode cX7_browser 79 = .ok (.iconst 1, 1) := by decide +kernel
theorem dX7_browser_80 : decode cX7_browser 80 = .ok (.iadd, 1) := by decide +kernel
theorem dX7_browser_81 : decode cX7_browser 81 = .ok (.iload_n 3, 1) := by decide +kernel
theorem dX7_browser_82 : decode cX7_browser 82 = .ok (.iadd, 1) := by decide +kernel
theorem dX7_browser_83 : decode cX7_browser 83 = .ok (.iaload, 1) := by decide +kernel
theorem dX7_browser_84 : decode cX7_browser 84 = .ok (.ireturn, 1) := by decide +kernel
theorem dX7_message_0 : decode cX7_message 0 = .ok (.aload_n 0, 1) := by decide +kernel
theorem dX7_message_1 : decode cX7_message 1 = .ok (.iload_n 1, 1) := by decide +kernel
theorem dX7_message_2 : decode cX7_message 2 = .ok (.i2l, 1) := by decide +kernel
theorem dX7_message_3 : decode cX7_message 3 = .ok (.lconst 0, 1) := by decide +kernel
theorem dX7_message_4 : decode cX7_message 4 = .ok (.aload_n 0, 1) := by decide +kernel
theorem dX7_message_5 : decode cX7_message 5 = .ok (.getfield 17, 3) := by decide +kernel
theorem dX7_message_8 : decode cX7_message 8 = .ok (.iconst 3, 1) := by decide +kernel
theorem dX7_message_9 : decode cX7_message 9 = .ok (.iaload, 1) := by decide +kernel
theorem dX7_message_10 : decode cX7_message 10 = .ok (.iconst 1, 1) := by decide +kernel
theorem dX7_message_11 : decode cX7_message 11 = .ok (.isub, 1) := by decide +kernel
theorem dX7_message_12 : decode cX7_message 12 = .ok (.i2l, 1) := by decide +kernel
theorem dX7_message_13 : decode cX7_message 13 = .ok (.invokestatic 92, 3) := by decide +kernel
theorem dX7_message_16 : decode cX7_message 16 = .ok (.ifCond .ne 7, 3) := by decide +kernel
theorem dX7_message_19 : decode cX7_message 19 = .ok (.iconst 1, 1) := by decide +kernel
theorem dX7_message_20 : decode cX7_message 20 = .ok (.goto 20, 3) := by decide +kernel
theorem dX7_message_40 : decode cX7_message 40 = .ok (.putfield 71, 3) := by decide +kernel
theorem dX7_message_43 : decode cX7_message 43 = .ok (.aload_n 0, 1) := by decide +kernel
theorem dX7_message_44 : decode cX7_message 44 = .ok (.getfield 71, 3) := by decide +kernel
theorem dX7_message_47 : decode cX7_message 47 = .ok (.ifCond .le 5, 3) := by decide +kernel
theorem dX7_message_50 : decode cX7_message 50 = .ok (.iconst 0, 1) := by decide +kernel
theorem dX7_message_51 : decode cX7_message 51 = .ok (.ireturn, 1) := by decide +kernel
theorem dX7_isMarked_0 : decode cX7_isMarked 0 = .ok (.aload_n 0, 1) := by decide +kernel
theorem dX7_isMarked_1 : decode cX7_isMarked 1 = .ok (.iload_n 1, 1) := by decide +kernel
theorem dX7_isMarked_2 : decode cX7_isMarked 2 = .ok (.i2l, 1) := by decide +kernel
theorem dX7_isMarked_3 : decode cX7_isMarked 3 = .ok (.lconst 0, 1) := by decide +kernel
theorem dX7_isMarked_4 : decode cX7_isMarked 4 = .ok (.ldc2_w 323, 3) := by decide +kernel
theorem dX7_isMarked_7 : decode cX7_isMarked 7 = .ok (.invokestatic 92, 3) := by decide +kernel
theorem dX7_isMarked_10 : decode cX7_isMarked 10 = .ok (.ifCond .eq 7, 3) := by decide +kernel
theorem dX7_isMarked_13 : decode cX7_isMarked 13 = .ok (.iconst 0, 1) := by decide +kernel
theorem dX7_isMarked_14 : decode cX7_isMarked 14 = .ok (.goto 4, 3) := by decide +kernel
theorem dX7_isMarked_17 : decode cX7_isMarked 17 = .ok (.iconst 1, 1) := by decide +kernel
theorem dX7_isMarked_18 : decode cX7_isMarked 18 = .ok (.putfield 71, 3) := by decide +kernel
theorem dX7_isMarked_21 : decode cX7_isMarked 21 = .ok (.aload_n 0, 1) := by decide +kernel
theorem dX7_isMarked_22 : decode cX7_isMarked 22 = .ok (.getfield 71, 3) := by decide +kernel
theorem dX7_isMarked_25 : decode cX7_isMarked 25 = .ok (.ifCond .ne 18, 3) := by decide +kernel
theorem dX7_isMarked_28 : decode cX7_isMarked 28 = .ok (.aload_n 0, 1) := by decide +kernel
theorem dX7_isMarked_29 : decode cX7_isMarked 29 = .ok (.getfield 17, 3) := by decide +kernel
theorem dX7_isMarked_32 : decode cX7_isMarked 32 = .ok (.iload_n 1, 1) := by decide +kernel
theorem dX7_isMarked_33 : decode cX7_isMarked 33 = .ok (.invokestatic 175, 3) := by decide +kernel
theorem dX7_isMarked_36 : decode cX7_isMarked 36 = .ok (.ifCond .eq 7, 3) := by decide +kernel
theorem dX7_isMarked_39 : decode cX7_isMarked 39 = .ok (.iconst 1, 1) := by decide +kernel
theorem dX7_isMarked_40 : decode cX7_isMarked 40 = .ok (.goto 4, 3) := by decide +kernel
theorem dX7_isMarked_43 : decode cX7_isMarked 43 = .ok (.iconst 0, 1) := by decide +kernel
theorem dX7_isMarked_44 : decode cX7_isMarked 44 = .ok (.ireturn, 1) := by decide +kernel
theorem dX7_log_0 : decode cX7_log 0 = .ok (.aload_n 0, 1) := by decide +kernel
theorem dX7_log_1 : decode cX7_log 1 = .ok (.iload_n 1, 1) := by decide +kernel
theorem dX7_log_2 : decode cX7_log 2 = .ok (.i2l, 1) := by decide +kernel
theorem dX7_log_3 : decode cX7_log 3 = .ok (.lconst 0, 1) := by decide +kernel
theorem dX7_log_4 : decode cX7_log 4 = .ok (.aload_n 0, 1) := by decide +kernel
theorem dX7_log_5 : decode cX7_log 5 = .ok (.invokevirtual 297, 3) := by decide +kernel
theorem dX7_log_8 : decode cX7_log 8 = .ok (.iconst 1, 1) := by decide +kernel
theorem dX7_log_9 : decode cX7_log 9 = .ok (.isub, 1) := by decide +kernel
theorem dX7_log_10 : decode cX7_log 10 = .ok (.i2l, 1) := by decide +kernel
theorem dX7_log_11 : decode cX7_log 11 = .ok (.invokestatic 92, 3) := by decide +kernel
theorem dX7_log_14 : decode cX7_log 14 = .ok (.ifCond .ne 7, 3) := by decide +kernel
theorem dX7_log_17 : decode cX7_log 17 = .ok (.iconst 1, 1) := by decide +kernel
theorem dX7_log_18 : decode cX7_log 18 = .ok (.goto 20, 3) := by decide +kernel
theorem dX7_log_38 : decode cX7_log 38 = .ok (.putfield 71, 3) := by decide +kernel
theorem dX7_log_41 : decode cX7_log 41 = .ok (.aload_n 0, 1) := by decide +kernel
theorem dX7_log_42 : decode cX7_log 42 = .ok (.getfield 71, 3) := by decide +kernel
theorem dX7_log_45 : decode cX7_log 45 = .ok (.ifCond .le 7, 3) := by decide +kernel
theorem dX7_log_48 : decode cX7_log 48 = .ok (.iconst 0, 1) := by decide +kernel
theorem dX7_log_49 : decode cX7_log 49 = .ok (.goto 30, 3) := by decide +kernel
theorem dX7_log_79 : decode cX7_log 79 = .ok (.ireturn, 1) := by decide +kernel
theorem dX7_knownPort_0 : decode cX7_knownPort 0 = .ok (.aload_n 0, 1) := by decide +kernel
theorem dX7_knownPort_1 : decode cX7_knownPort 1 = .ok (.iload_n 1, 1) := by decide +kernel
theorem dX7_knownPort_2 : decode cX7_knownPort 2 = .ok (.iload_n 2, 1) := by decide +kernel
theorem dX7_knownPort_3 : decode cX7_knownPort 3 = .ok (.invokestatic 74, 3) := by decide +kernel
theorem dX7_knownPort_6 : decode cX7_knownPort 6 = .ok (.iconst 1, 1) := by decide +kernel
theorem dX7_knownPort_7 : decode cX7_knownPort 7 = .ok (.iadd, 1) := by decide +kernel
theorem dX7_knownPort_8 : decode cX7_knownPort 8 = .ok (.invokevirtual 234, 3) := by decide +kernel
theorem dX7_knownPort_11 : decode cX7_knownPort 11 = .ok (.istore_n 3, 1) := by decide +kernel
theorem dX7_knownPort_12 : decode cX7_knownPort 12 = .ok (.iload_n 3, 1) := by decide +kernel
theorem dX7_knownPort_13 : decode cX7_knownPort 13 = .ok (.ifCond .lt 44, 3) := by decide +kernel
theorem dX7_knownPort_16 : decode cX7_knownPort 16 = .ok (.aload_n 0, 1) := by decide +kernel
theorem dX7_knownPort_17 : decode cX7_knownPort 17 = .ok (.getfield 17, 3) := by decide +kernel
theorem dX7_knownPort_20 : decode cX7_knownPort 20 = .ok (.iload_n 1, 1) := by decide +kernel
theorem dX7_knownPort_21 : decode cX7_knownPort 21 = .ok (.iload_n 3, 1) := by decide +kernel
theorem dX7_knownPort_22 : decode cX7_knownPort 22 = .ok (.invokestatic 227, 3) := by decide +kernel
theorem dX7_knownPort_25 : decode cX7_knownPort 25 = .ok (.iconst 4, 1) := by decide +kernel
theorem dX7_knownPort_26 : decode cX7_knownPort 26 = .ok (.iadd, 1) := by decide +kernel
theorem dX7_knownPort_27 : decode cX7_knownPort 27 = .ok (.iaload, 1) := by decide +kernel
theorem dX7_knownPort_28 : decode cX7_knownPort 28 = .ok (.aload_n 0, 1) := by decide +kernel
theorem dX7_knownPort_29 : decode cX7_knownPort 29 = .ok (.getfield 17, 3) := by decide +kernel
theorem dX7_knownPort_32 : decode cX7_knownPort 32 = .ok (.iload_n 2, 1) := by decide +kernel
theorem dX7_knownPort_33 : decode cX7_knownPort 33 = .ok (.invokestatic 74, 3) := by decide +kernel
theorem dX7_knownPort_36 : decode cX7_knownPort 36 = .ok (.iconst 0, 1) := by decide +kernel
theorem dX7_knownPort_37 : decode cX7_knownPort 37 = .ok (.iadd, 1) := by decide +kernel
theorem dX7_knownPort_38 : decode cX7_knownPort 38 = .ok (.iaload, 1) := by decide +kernel
theorem dX7_knownPort_39 : decode cX7_knownPort 39 = .ok (.if_icmp .ne 18, 3) := by decide +kernel
theorem dX7_knownPort_42 : decode cX7_knownPort 42 = .ok (.aload_n 0, 1) := by decide +kernel
theorem dX7_knownPort_43 : decode cX7_knownPort 43 = .ok (.getfield 17, 3) := by decide +kernel
theorem dX7_knownPort_46 : decode cX7_knownPort 46 = .ok (.iload_n 1, 1) := by decide +kernel
theorem dX7_knownPort_47 : decode cX7_knownPort 47 = .ok (.iload_n 3, 1) := by decide +kernel
theorem dX7_knownPort_48 : decode cX7_knownPort 48 = .ok (.invokestatic 227, 3) := by decide +kernel
theorem dX7_knownPort_51 : decode cX7_knownPort 51 = .ok (.iconst 3, 1) := by decide +kernel
theorem dX7_knownPort_52 : decode cX7_knownPort 52 = .ok (.iadd, 1) := by decide +kernel
theorem dX7_knownPort_53 : decode cX7_knownPort 53 = .ok (.iaload, 1) := by decide +kernel
theorem dX7_knownPort_54 : decode cX7_knownPort 54 = .ok (.goto 4, 3) := by decide +kernel
theorem dX7_knownPort_57 : decode cX7_knownPort 57 = .ok (.iconst (-1), 1) := by decide +kernel
theorem dX7_knownPort_58 : decode cX7_knownPort 58 = .ok (.ireturn, 1) := by decide +kernel
theorem dX7_known__0 : decode cX7_known_ 0 = .ok (.aload_n 0, 1) := by decide +kernel
theorem dX7_known__1 : decode cX7_known_ 1 = .ok (.aload_n 0, 1) := by decide +kernel
theorem dX7_known__2 : decode cX7_known_ 2 = .ok (.iload_n 1, 1) := by decide +kernel
theorem dX7_known__3 : decode cX7_known_ 3 = .ok (.invokevirtual 300, 3) := by decide +kernel
theorem dX7_known__6 : decode cX7_known_ 6 = .ok (.ifCond .eq 15, 3) := by decide +kernel
theorem dX7_known__9 : decode cX7_known_ 9 = .ok (.aload_n 0, 1) := by decide +kernel
theorem dX7_known__10 : decode cX7_known_ 10 = .ok (.iload_n 2, 1) := by decide +kernel
theorem dX7_known__11 : decode cX7_known_ 11 = .ok (.invokevirtual 305, 3) := by decide +kernel
theorem dX7_known__14 : decode cX7_known_ 14 = .ok (.ifCond .eq 7, 3) := by decide +kernel
theorem dX7_known__17 : decode cX7_known_ 17 = .ok (.iconst 0, 1) := by decide +kernel
theorem dX7_known__18 : decode cX7_known_ 18 = .ok (.goto 4, 3) := by decide +kernel
theorem dX7_known__21 : decode cX7_known_ 21 = .ok (.iconst 1, 1) := by decide +kernel
theorem dX7_known__22 : decode cX7_known_ 22 = .ok (.putfield 71, 3) := by decide +kernel
theorem dX7_known__25 : decode cX7_known_ 25 = .ok (.aload_n 0, 1) := by decide +kernel
theorem dX7_known__26 : decode cX7_known_ 26 = .ok (.getfield 71, 3) := by decide +kernel
theorem dX7_known__29 : decode cX7_known_ 29 = .ok (.ifCond .le 7, 3) := by decide +kernel
theorem dX7_known__32 : decode cX7_known_ 32 = .ok (.iconst 0, 1) := by decide +kernel
theorem dX7_known__33 : decode cX7_known_ 33 = .ok (.goto 9, 3) := by decide +kernel
theorem dX7_known__36 : decode cX7_known_ 36 = .ok (.aload_n 0, 1) := by decide +kernel
theorem dX7_known__37 : decode cX7_known_ 37 = .ok (.iload_n 1, 1) := by decide +kernel
theorem dX7_known__38 : decode cX7_known_ 38 = .ok (.iload_n 2, 1) := by decide +kernel
theorem dX7_known__39 : decode cX7_known_ 39 = .ok (.invokevirtual 325, 3) := by decide +kernel
theorem dX7_known__42 : decode cX7_known_ 42 = .ok (.ireturn, 1) := by decide +kernel
theorem dX7_records_0 : decode cX7_records 0 = .ok (.aload_n 0, 1) := by decide +kernel
theorem dX7_records_1 : decode cX7_records 1 = .ok (.aload_n 0, 1) := by decide +kernel
theorem dX7_records_2 : decode cX7_records 2 = .ok (.iload_n 1, 1) := by decide +kernel
theorem dX7_records_3 : decode cX7_records 3 = .ok (.invokevirtual 300, 3) := by decide +kernel
theorem dX7_records_6 : decode cX7_records 6 = .ok (.ifCond .eq 15, 3) := by decide +kernel
theorem dX7_records_9 : decode cX7_records 9 = .ok (.aload_n 0, 1) := by decide +kernel
theorem dX7_records_10 : decode cX7_records 10 = .ok (.iload_n 2, 1) := by decide +kernel
theorem dX7_records_11 : decode cX7_records 11 = .ok (.invokevirtual 318, 3) := by decide +kernel
theorem dX7_records_14 : decode cX7_records 14 = .ok (.ifCond .eq 7, 3) := by decide +kernel
theorem dX7_records_17 : decode cX7_records 17 = .ok (.iconst 0, 1) := by decide +kernel
theorem dX7_records_18 : decode cX7_records 18 = .ok (.goto 4, 3) := by decide +kernel
theorem dX7_records_21 : decode cX7_records 21 = .ok (.iconst 1, 1) := by decide +kernel
theorem dX7_records_22 : decode cX7_records 22 = .ok (.putfield 71, 3) := by decide +kernel
theorem dX7_records_25 : decode cX7_records 25 = .ok (.iconst 0, 1) := by decide +kernel
theorem dX7_records_26 : decode cX7_records 26 = .ok (.istore_n 3, 1) := by decide +kernel
theorem dX7_records_27 : decode cX7_records 27 = .ok (.iconst 0, 1) := by decide +kernel
theorem dX7_records_28 : decode cX7_records 28 = .ok (.istore 4, 2) := by decide +kernel
theorem dX7_records_30 : decode cX7_records 30 = .ok (.aload_n 0, 1) := by decide +kernel
theorem dX7_records_31 : decode cX7_records 31 = .ok (.getfield 71, 3) := by decide +kernel
theorem dX7_records_34 : decode cX7_records 34 = .ok (.ifCond .ne 50, 3) := by decide +kernel
theorem dX7_records_37 : decode cX7_records 37 = .ok (.iload 4, 2) := by decide +kernel
theorem dX7_records_39 : decode cX7_records 39 = .ok (.aload_n 0, 1) := by decide +kernel
theorem dX7_records_40 : decode cX7_records 40 = .ok (.getfield 17, 3) := by decide +kernel
theorem dX7_records_43 : decode cX7_records 43 = .ok (.iload_n 1, 1) := by decide +kernel
theorem dX7_records_44 : decode cX7_records 44 = .ok (.invokestatic 78, 3) := by decide +kernel
theorem dX7_records_47 : decode cX7_records 47 = .ok (.iconst 3, 1) := by decide +kernel
theorem dX7_records_48 : decode cX7_records 48 = .ok (.iadd, 1) := by decide +kernel
theorem dX7_records_49 : decode cX7_records 49 = .ok (.iaload, 1) := by decide +kernel
theorem dX7_records_50 : decode cX7_records 50 = .ok (.if_icmp .ge 34, 3) := by decide +kernel
theorem dX7_records_53 : decode cX7_records 53 = .ok (.iload_n 3, 1) := by decide +kernel
theorem dX7_records_54 : decode cX7_records 54 = .ok (.aload_n 0, 1) := by decide +kernel
theorem dX7_records_55 : decode cX7_records 55 = .ok (.getfield 17, 3) := by decide +kernel
theorem dX7_records_58 : decode cX7_records 58 = .ok (.iload_n 1, 1) := by decide +kernel
theorem dX7_records_59 : decode cX7_records 59 = .ok (.iload 4, 2) := by decide +kernel
theorem dX7_records_61 : decode cX7_records 61 = .ok (.invokestatic 227, 3) := by decide +kernel
theorem dX7_records_64 : decode cX7_records 64 = .ok (.iconst 0, 1) := by decide +kernel
theorem dX7_records_65 : decode cX7_records 65 = .ok (.iadd, 1) := by decide +kernel
theorem dX7_records_66 : decode cX7_records 66 = .ok (.iaload, 1) := by decide +kernel
theorem dX7_records_67 : decode cX7_records 67 = .ok (.iload_n 2, 1) := by decide +kernel
theorem dX7_records_68 : decode cX7_records 68 = .ok (.if_icmp .ne 7, 3) := by decide +kernel
theorem dX7_records_71 : decode cX7_records 71 = .ok (.iconst 1, 1) := by decide +kernel
theorem dX7_records_72 : decode cX7_records 72 = .ok (.goto 4, 3) := by decide +kernel
theorem dX7_records_84 : decode cX7_records 84 = .ok (.iload_n 3, 1) := by decide +kernel
theorem dX7_records_85 : decode cX7_records 85 = .ok (.ireturn, 1) := by decide +kernel
theorem dX7_staleNow_0 : decode cX7_staleNow 0 = .ok (.iconst 0, 1) := by decide +kernel
theorem dX7_staleNow_1 : decode cX7_staleNow 1 = .ok (.istore_n 1, 1) := by decide +kernel
theorem dX7_staleNow_2 : decode cX7_staleNow 2 = .ok (.iconst 0, 1) := by decide +kernel
theorem dX7_staleNow_3 : decode cX7_staleNow 3 = .ok (.istore_n 2, 1) := by decide +kernel
theorem dX7_staleNow_4 : decode cX7_staleNow 4 = .ok (.iload_n 2, 1) := by decide +kernel
theorem dX7_staleNow_5 : decode cX7_staleNow 5 = .ok (.aload_n 0, 1) := by decide +kernel
theorem dX7_staleNow_6 : decode cX7_staleNow 6 = .ok (.getfield 199, 3) := by decide +kernel
theorem dX7_staleNow_9 : decode cX7_staleNow 9 = .ok (.if_icmp .ge 52, 3) := by decide +kernel
theorem dX7_staleNow_12 : decode cX7_staleNow 12 = .ok (.iconst 0, 1) := by decide +kernel
theorem dX7_staleNow_13 : decode cX7_staleNow 13 = .ok (.istore_n 3, 1) := by decide +kernel
theorem dX7_staleNow_14 : decode cX7_staleNow 14 = .ok (.iload_n 3, 1) := by decide +kernel
theorem dX7_staleNow_15 : decode cX7_staleNow 15 = .ok (.aload_n 0, 1) := by decide +kernel
theorem dX7_staleNow_16 : decode cX7_staleNow 16 = .ok (.getfield 17, 3) := by decide +kernel
theorem dX7_staleNow_19 : decode cX7_staleNow 19 = .ok (.iload_n 2, 1) := by decide +kernel
theorem dX7_staleNow_20 : decode cX7_staleNow 20 = .ok (.invokestatic 78, 3) := by decide +kernel
theorem dX7_staleNow_23 : decode cX7_staleNow 23 = .ok (.iconst 3, 1) := by decide +kernel
theorem dX7_staleNow_24 : decode cX7_staleNow 24 = .ok (.iadd, 1) := by decide +kernel
theorem dX7_staleNow_25 : decode cX7_staleNow 25 = .ok (.iaload, 1) := by decide +kernel
theorem dX7_staleNow_26 : decode cX7_staleNow 26 = .ok (.if_icmp .ge 29, 3) := by decide +kernel
theorem dX7_staleNow_29 : decode cX7_staleNow 29 = .ok (.iload_n 1, 1) := by decide +kernel
theorem dX7_staleNow_30 : decode cX7_staleNow 30 = .ok (.aload_n 0, 1) := by decide +kernel
theorem dX7_staleNow_31 : decode cX7_staleNow 31 = .ok (.iload_n 2, 1) := by decide +kernel
theorem dX7_staleNow_32 : decode cX7_staleNow 32 = .ok (.iload_n 3, 1) := by decide +kernel
theorem dX7_staleNow_33 : decode cX7_staleNow 33 = .ok (.invokestatic 227, 3) := by decide +kernel
theorem dX7_staleNow_36 : decode cX7_staleNow 36 = .ok (.invokevirtual 328, 3) := by decide +kernel
theorem dX7_staleNow_39 : decode cX7_staleNow 39 = .ok (.ifCond .eq 7, 3) := by decide +kernel
theorem dX7_staleNow_42 : decode cX7_staleNow 42 = .ok (.iconst 1, 1) := by decide +kernel
theorem dX7_staleNow_43 : decode cX7_staleNow 43 = .ok (.goto 4, 3) := by decide +kernel
theorem dX7_staleNow_55 : decode cX7_staleNow 55 = .ok (.iinc 2 1, 3) := by decide +kernel
theorem dX7_staleNow_58 : decode cX7_staleNow 58 = .ok (.goto (-54), 3) := by decide +kernel
theorem dX7_staleNow_61 : decode cX7_staleNow 61 = .ok (.iload_n 1, 1) := by decide +kernel
theorem dX7_staleNow_62 : decode cX7_staleNow 62 = .ok (.ireturn, 1) := by decide +kernel
theorem dX7_stale_0 : decode cX7_stale 0 = .ok (.aload_n 0, 1) := by decide +kernel
theorem dX7_stale_1 : decode cX7_stale 1 = .ok (.iconst 0, 1) := by decide +kernel
theorem dX7_stale_2 : decode cX7_stale 2 = .ok (.putfield 71, 3) := by decide +kernel
theorem dX7_stale_5 : decode cX7_stale 5 = .ok (.aload_n 0, 1) := by decide +kernel
theorem dX7_stale_6 : decode cX7_stale 6 = .ok (.invokevirtual 331, 3) := by decide +kernel
theorem dX7_stale_9 : decode cX7_stale 9 = .ok (.ireturn, 1) := by decide +kernel
theorem dX7_clashes_0 : decode cX7_clashes 0 = .ok (.aload_n 0, 1) := by decide +kernel
theorem dX7_clashes_1 : decode cX7_clashes 1 = .ok (.iconst 0, 1) := by decide +kernel
theorem dX7_clashes_2 : decode cX7_clashes 2 = .ok (.putfield 71, 3) := by decide +kernel
theorem dX7_clashes_5 : decode cX7_clashes 5 = .ok (.iconst 0, 1) := by decide +kernel
theorem dX7_clashes_6 : decode cX7_clashes 6 = .ok (.istore_n 1, 1) := by decide +kernel
theorem dX7_clashes_7 : decode cX7_clashes 7 = .ok (.iconst 0, 1) := by decide +kernel
theorem dX7_clashes_8 : decode cX7_clashes 8 = .ok (.istore_n 2, 1) := by decide +kernel
theorem dX7_clashes_9 : decode cX7_clashes 9 = .ok (.iload_n 2, 1) := by decide +kernel
theorem dX7_clashes_10 : decode cX7_clashes 10 = .ok (.aload_n 0, 1) := by decide +kernel
theorem dX7_clashes_11 : decode cX7_clashes 11 = .ok (.getfield 17, 3) := by decide +kernel
theorem dX7_clashes_14 : decode cX7_clashes 14 = .ok (.bipush 8, 2) := by decide +kernel
theorem dX7_clashes_16 : decode cX7_clashes 16 = .ok (.iaload, 1) := by decide +kernel
theorem dX7_clashes_17 : decode cX7_clashes 17 = .ok (.if_icmp .ge 154, 3) := by decide +kernel
theorem dX7_clashes_20 : decode cX7_clashes 20 = .ok (.iconst 0, 1) := by decide +kernel
theorem dX7_clashes_21 : decode cX7_clashes 21 = .ok (.istore_n 3, 1) := by decide +kernel
theorem dX7_clashes_22 : decode cX7_clashes 22 = .ok (.iload_n 3, 1) := by decide +kernel
theorem dX7_clashes_23 : decode cX7_clashes 23 = .ok (.iload_n 2, 1) := by decide +kernel
theorem dX7_clashes_24 : decode cX7_clashes 24 = .ok (.if_icmp .ge 141, 3) := by decide +kernel
theorem dX7_clashes_27 : decode cX7_clashes 27 = .ok (.aload_n 0, 1) := by decide +kernel
theorem dX7_clashes_28 : decode cX7_clashes 28 = .ok (.getfield 17, 3) := by decide +kernel
theorem dX7_clashes_31 : decode cX7_clashes 31 = .ok (.iload_n 2, 1) := by decide +kernel
theorem dX7_clashes_32 : decode cX7_clashes 32 = .ok (.invokestatic 74, 3) := by decide +kernel
theorem dX7_clashes_35 : decode cX7_clashes 35 = .ok (.iconst 0, 1) := by decide +kernel
theorem dX7_clashes_36 : decode cX7_clashes 36 = .ok (.iadd, 1) := by decide +kernel
theorem dX7_clashes_37 : decode cX7_clashes 37 = .ok (.iaload, 1) := by decide +kernel
theorem dX7_clashes_38 : decode cX7_clashes 38 = .ok (.invokestatic 78, 3) := by decide +kernel
theorem dX7_clashes_41 : decode cX7_clashes 41 = .ok (.istore 4, 2) := by decide +kernel
theorem dX7_clashes_43 : decode cX7_clashes 43 = .ok (.aload_n 0, 1) := by decide +kernel
theorem dX7_clashes_44 : decode cX7_clashes 44 = .ok (.getfield 17, 3) := by decide +kernel
theorem dX7_clashes_47 : decode cX7_clashes 47 = .ok (.iload_n 3, 1) := by decide +kernel
theorem dX7_clashes_48 : decode cX7_clashes 48 = .ok (.invokestatic 74, 3) := by decide +kernel
theorem dX7_clashes_51 : decode cX7_clashes 51 = .ok (.iconst 0, 1) := by decide +kernel
theorem dX7_clashes_52 : decode cX7_clashes 52 = .ok (.iadd, 1) := by decide +kernel
theorem dX7_clashes_53 : decode cX7_clashes 53 = .ok (.iaload, 1) := by decide +kernel
theorem dX7_clashes_54 : decode cX7_clashes 54 = .ok (.invokestatic 78, 3) := by decide +kernel
theorem dX7_clashes_57 : decode cX7_clashes 57 = .ok (.istore 5, 2) := by decide +kernel
theorem dX7_clashes_59 : decode cX7_clashes 59 = .ok (.aload_n 0, 1) := by decide +kernel
theorem dX7_clashes_60 : decode cX7_clashes 60 = .ok (.iload_n 2, 1) := by decide +kernel
theorem dX7_clashes_61 : decode cX7_clashes 61 = .ok (.invokevirtual 243, 3) := by decide +kernel
theorem dX7_clashes_64 : decode cX7_clashes 64 = .ok (.ifCond .eq 34, 3) := by decide +kernel
theorem dX7_clashes_67 : decode cX7_clashes 67 = .ok (.aload_n 0, 1) := by decide +kernel
theorem dX7_clashes_68 : decode cX7_clashes 68 = .ok (.iload_n 3, 1) := by decide +kernel
theorem dX7_clashes_69 : decode cX7_clashes 69 = .ok (.invokevirtual 243, 3) := by decide +kernel
theorem dX7_clashes_72 : decode cX7_clashes 72 = .ok (.ifCond .eq 26, 3) := by decide +kernel
theorem dX7_clashes_75 : decode cX7_clashes 75 = .ok (.aload_n 0, 1) := by decide +kernel
theorem dX7_clashes_76 : decode cX7_clashes 76 = .ok (.iload_n 2, 1) := by decide +kernel
theorem dX7_clashes_77 : decode cX7_clashes 77 = .ok (.invokestatic 74, 3) := by decide +kernel
theorem dX7_clashes_80 : decode cX7_clashes 80 = .ok (.iconst 1, 1) := by decide +kernel
theorem dX7_clashes_81 : decode cX7_clashes 81 = .ok (.iadd, 1) := by decide +kernel
theorem dX7_clashes_82 : decode cX7_clashes 82 = .ok (.iload_n 3, 1) := by decide +kernel
theorem dX7_clashes_83 : decode cX7_clashes 83 = .ok (.invokestatic 74, 3) := by decide +kernel
theorem dX7_clashes_86 : decode cX7_clashes 86 = .ok (.iconst 1, 1) := by decide +kernel
theorem dX7_clashes_87 : decode cX7_clashes 87 = .ok (.iadd, 1) := by decide +kernel
theorem dX7_clashes_88 : decode cX7_clashes 88 = .ok (.invokevirtual 230, 3) := by decide +kernel
theorem dX7_clashes_91 : decode cX7_clashes 91 = .ok (.ifCond .eq 7, 3) := by decide +kernel
theorem dX7_clashes_94 : decode cX7_clashes 94 = .ok (.iconst 1, 1) := by decide +kernel
theorem dX7_clashes_95 : decode cX7_clashes 95 = .ok (.goto 4, 3) := by decide +kernel
theorem dX7_clashes_98 : decode cX7_clashes 98 = .ok (.iconst 0, 1) := by decide +kernel
theorem dX7_clashes_99 : decode cX7_clashes 99 = .ok (.istore 6, 2) := by decide +kernel
theorem dX7_clashes_101 : decode cX7_clashes 101 = .ok (.iload_n 1, 1) := by decide +kernel
theorem dX7_clashes_102 : decode cX7_clashes 102 = .ok (.iload 6, 2) := by decide +kernel
theorem dX7_clashes_104 : decode cX7_clashes 104 = .ok (.ifCond .eq 52, 3) := by decide +kernel
theorem dX7_clashes_107 : decode cX7_clashes 107 = .ok (.aload_n 0, 1) := by decide +kernel
theorem dX7_clashes_108 : decode cX7_clashes 108 = .ok (.getfield 17, 3) := by decide +kernel
theorem dX7_clashes_111 : decode cX7_clashes 111 = .ok (.iload 4, 2) := by decide +kernel
theorem dX7_clashes_113 : decode cX7_clashes 113 = .ok (.iconst 0, 1) := by decide +kernel
theorem dX7_clashes_114 : decode cX7_clashes 114 = .ok (.iadd, 1) := by decide +kernel
theorem dX7_clashes_115 : decode cX7_clashes 115 = .ok (.iaload, 1) := by decide +kernel
theorem dX7_clashes_116 : decode cX7_clashes 116 = .ok (.ifCond .eq 40, 3) := by decide +kernel
theorem dX7_clashes_119 : decode cX7_clashes 119 = .ok (.aload_n 0, 1) := by decide +kernel
theorem dX7_clashes_120 : decode cX7_clashes 120 = .ok (.getfield 17, 3) := by decide +kernel
theorem dX7_clashes_123 : decode cX7_clashes 123 = .ok (.iload 5, 2) := by decide +kernel
theorem dX7_clashes_125 : decode cX7_clashes 125 = .ok (.iconst 0, 1) := by decide +kernel
theorem dX7_clashes_126 : decode cX7_clashes 126 = .ok (.iadd, 1) := by decide +kernel
theorem dX7_clashes_127 : decode cX7_clashes 127 = .ok (.iaload, 1) := by decide +kernel
theorem dX7_clashes_128 : decode cX7_clashes 128 = .ok (.ifCond .eq 28, 3) := by decide +kernel
theorem dX7_clashes_131 : decode cX7_clashes 131 = .ok (.aload_n 0, 1) := by decide +kernel
theorem dX7_clashes_132 : decode cX7_clashes 132 = .ok (.getfield 17, 3) := by decide +kernel
theorem dX7_clashes_135 : decode cX7_clashes 135 = .ok (.iload 4, 2) := by decide +kernel
theorem dX7_clashes_137 : decode cX7_clashes 137 = .ok (.iconst 1, 1) := by decide +kernel
theorem dX7_clashes_138 : decode cX7_clashes 138 = .ok (.iadd, 1) := by decide +kernel
theorem dX7_clashes_139 : decode cX7_clashes 139 = .ok (.iaload, 1) := by decide +kernel
theorem dX7_clashes_140 : decode cX7_clashes 140 = .ok (.aload_n 0, 1) := by decide +kernel
theorem dX7_clashes_141 : decode cX7_clashes 141 = .ok (.getfield 17, 3) := by decide +kernel
theorem dX7_clashes_144 : decode cX7_clashes 144 = .ok (.iload 5, 2) := by decide +kernel
theorem dX7_clashes_146 : decode cX7_clashes 146 = .ok (.iconst 1, 1) := by decide +kernel
theorem dX7_clashes_147 : decode cX7_clashes 147 = .ok (.iadd, 1) := by decide +kernel
theorem dX7_clashes_148 : decode cX7_clashes 148 = .ok (.iaload, 1) := by decide +kernel
theorem dX7_clashes_149 : decode cX7_clashes 149 = .ok (.if_icmp .ne 7, 3) := by decide +kernel
theorem dX7_clashes_152 : decode cX7_clashes 152 = .ok (.iconst 1, 1) := by decide +kernel
theorem dX7_clashes_153 : decode cX7_clashes 153 = .ok (.goto 4, 3) := by decide +kernel
theorem dX7_clashes_156 : decode cX7_clashes 156 = .ok (.iconst 0, 1) := by decide +kernel
theorem dX7_clashes_157 : decode cX7_clashes 157 = .ok (.iadd, 1) := by decide +kernel
theorem dX7_clashes_158 : decode cX7_clashes 158 = .ok (.istore_n 1, 1) := by decide +kernel
theorem dX7_clashes_159 : decode cX7_clashes 159 = .ok (.iinc 3 1, 3) := by decide +kernel
theorem dX7_clashes_162 : decode cX7_clashes 162 = .ok (.goto (-140), 3) := by decide +kernel
theorem dX7_clashes_165 : decode cX7_clashes 165 = .ok (.iinc 2 1, 3) := by decide +kernel
theorem dX7_clashes_168 : decode cX7_clashes 168 = .ok (.goto (-159), 3) := by decide +kernel
theorem dX7_clashes_171 : decode cX7_clashes 171 = .ok (.iload_n 1, 1) := by decide +kernel
theorem dX7_clashes_172 : decode cX7_clashes 172 = .ok (.ireturn, 1) := by decide +kernel
theorem dX7_coverage_0 : decode cX7_coverage 0 = .ok (.aload_n 0, 1) := by decide +kernel
theorem dX7_coverage_1 : decode cX7_coverage 1 = .ok (.iconst 0, 1) := by decide +kernel
theorem dX7_coverage_2 : decode cX7_coverage 2 = .ok (.putfield 71, 3) := by decide +kernel
theorem dX7_coverage_5 : decode cX7_coverage 5 = .ok (.iconst 0, 1) := by decide +kernel
theorem dX7_coverage_6 : decode cX7_coverage 6 = .ok (.istore_n 1, 1) := by decide +kernel
theorem dX7_coverage_7 : decode cX7_coverage 7 = .ok (.iconst 0, 1) := by decide +kernel
theorem dX7_coverage_8 : decode cX7_coverage 8 = .ok (.istore_n 2, 1) := by decide +kernel
theorem dX7_coverage_9 : decode cX7_coverage 9 = .ok (.iconst 0, 1) := by decide +kernel
theorem dX7_coverage_10 : decode cX7_coverage 10 = .ok (.istore_n 3, 1) := by decide +kernel
theorem dX7_coverage_11 : decode cX7_coverage 11 = .ok (.iload_n 3, 1) := by decide +kernel
theorem dX7_coverage_12 : decode cX7_coverage 12 = .ok (.aload_n 0, 1) := by decide +kernel
theorem dX7_coverage_13 : decode cX7_coverage 13 = .ok (.getfield 199, 3) := by decide +kernel
theorem dX7_coverage_16 : decode cX7_coverage 16 = .ok (.if_icmp .ge 179, 3) := by decide +kernel
theorem dX7_coverage_19 : decode cX7_coverage 19 = .ok (.iconst 0, 1) := by decide +kernel
theorem dX7_coverage_20 : decode cX7_coverage 20 = .ok (.istore 4, 2) := by decide +kernel
theorem dX7_coverage_22 : decode cX7_coverage 22 = .ok (.iload 4, 2) := by decide +kernel
theorem dX7_coverage_24 : decode cX7_coverage 24 = .ok (.aload_n 0, 1) := by decide +kernel
theorem dX7_coverage_25 : decode cX7_coverage 25 = .ok (.getfield 17, 3) := by decide +kernel
theorem dX7_coverage_28 : decode cX7_coverage 28 = .ok (.bipush 8, 2) := by decide +kernel
theorem dX7_coverage_30 : decode cX7_coverage 30 = .ok (.iaload, 1) := by decide +kernel
theorem dX7_coverage_31 : decode cX7_coverage 31 = .ok (.if_icmp .ge 158, 3) := by decide +kernel
theorem dX7_coverage_34 : decode cX7_coverage 34 = .ok (.iload 4, 2) := by decide +kernel
theorem dX7_coverage_36 : decode cX7_coverage 36 = .ok (.invokestatic 74, 3) := by decide +kernel
theorem dX7_coverage_39 : decode cX7_coverage 39 = .ok (.istore 5, 2) := by decide +kernel
theorem dX7_coverage_41 : decode cX7_coverage 41 = .ok (.aload_n 0, 1) := by decide +kernel
theorem dX7_coverage_42 : decode cX7_coverage 42 = .ok (.getfield 17, 3) := by decide +kernel
theorem dX7_coverage_45 : decode cX7_coverage 45 = .ok (.iload 5, 2) := by decide +kernel
theorem dX7_coverage_47 : decode cX7_coverage 47 = .ok (.iconst 0, 1) := by decide +kernel
theorem dX7_coverage_48 : decode cX7_coverage 48 = .ok (.iadd, 1) := by decide +kernel
theorem dX7_coverage_49 : decode cX7_coverage 49 = .ok (.iaload, 1) := by decide +kernel
theorem dX7_coverage_50 : decode cX7_coverage 50 = .ok (.invokestatic 78, 3) := by decide +kernel
theorem dX7_coverage_53 : decode cX7_coverage 53 = .ok (.istore 6, 2) := by decide +kernel
theorem dX7_coverage_55 : decode cX7_coverage 55 = .ok (.aload_n 0, 1) := by decide +kernel
theorem dX7_coverage_56 : decode cX7_coverage 56 = .ok (.getfield 17, 3) := by decide +kernel
theorem dX7_coverage_59 : decode cX7_coverage 59 = .ok (.iload 5, 2) := by decide +kernel
theorem dX7_coverage_61 : decode cX7_coverage 61 = .ok (.iconst 0, 1) := by decide +kernel
theorem dX7_coverage_62 : decode cX7_coverage 62 = .ok (.iadd, 1) := by decide +kernel
theorem dX7_coverage_63 : decode cX7_coverage 63 = .ok (.iaload, 1) := by decide +kernel
theorem dX7_coverage_64 : decode cX7_coverage 64 = .ok (.iload_n 3, 1) := by decide +kernel
theorem dX7_coverage_65 : decode cX7_coverage 65 = .ok (.if_icmp .eq 70, 3) := by decide +kernel
theorem dX7_coverage_68 : decode cX7_coverage 68 = .ok (.aload_n 0, 1) := by decide +kernel
theorem dX7_coverage_69 : decode cX7_coverage 69 = .ok (.getfield 17, 3) := by decide +kernel
theorem dX7_coverage_72 : decode cX7_coverage 72 = .ok (.iload 5, 2) := by decide +kernel
