theorem dX7_coverage_74 : decode cX7_coverage 74 = .ok (.bipush 6, 2) := by decide +kernel
theorem dX7_coverage_76 : decode cX7_coverage 76 = .ok (.iadd, 1) := by decide +kernel
theorem dX7_coverage_77 : decode cX7_coverage 77 = .ok (.iaload, 1) := by decide +kernel
theorem dX7_coverage_78 : decode cX7_coverage 78 = .ok (.iconst 2, 1) := by decide +kernel
theorem dX7_coverage_79 : decode cX7_coverage 79 = .ok (.if_icmp .ne 56, 3) := by decide +kernel
theorem dX7_coverage_82 : decode cX7_coverage 82 = .ok (.aload_n 0, 1) := by decide +kernel
theorem dX7_coverage_83 : decode cX7_coverage 83 = .ok (.getfield 17, 3) := by decide +kernel
theorem dX7_coverage_86 : decode cX7_coverage 86 = .ok (.iload_n 3, 1) := by decide +kernel
theorem dX7_coverage_87 : decode cX7_coverage 87 = .ok (.invokestatic 78, 3) := by decide +kernel
theorem dX7_coverage_90 : decode cX7_coverage 90 = .ok (.iconst 0, 1) := by decide +kernel
theorem dX7_coverage_91 : decode cX7_coverage 91 = .ok (.iadd, 1) := by decide +kernel
theorem dX7_coverage_92 : decode cX7_coverage 92 = .ok (.iaload, 1) := by decide +kernel
theorem dX7_coverage_93 : decode cX7_coverage 93 = .ok (.ifCond .eq 42, 3) := by decide +kernel
theorem dX7_coverage_96 : decode cX7_coverage 96 = .ok (.aload_n 0, 1) := by decide +kernel
theorem dX7_coverage_97 : decode cX7_coverage 97 = .ok (.getfield 17, 3) := by decide +kernel
theorem dX7_coverage_100 : decode cX7_coverage 100 = .ok (.iload 6, 2) := by decide +kernel
theorem dX7_coverage_102 : decode cX7_coverage 102 = .ok (.iconst 0, 1) := by decide +kernel
theorem dX7_coverage_103 : decode cX7_coverage 103 = .ok (.iadd, 1) := by decide +kernel
theorem dX7_coverage_104 : decode cX7_coverage 104 = .ok (.iaload, 1) := by decide +kernel
theorem dX7_coverage_105 : decode cX7_coverage 105 = .ok (.ifCond .eq 30, 3) := by decide +kernel
theorem dX7_coverage_108 : decode cX7_coverage 108 = .ok (.aload_n 0, 1) := by decide +kernel
theorem dX7_coverage_109 : decode cX7_coverage 109 = .ok (.getfield 17, 3) := by decide +kernel
theorem dX7_coverage_112 : decode cX7_coverage 112 = .ok (.iload 6, 2) := by decide +kernel
theorem dX7_coverage_114 : decode cX7_coverage 114 = .ok (.iconst 1, 1) := by decide +kernel
theorem dX7_coverage_115 : decode cX7_coverage 115 = .ok (.iadd, 1) := by decide +kernel
theorem dX7_coverage_116 : decode cX7_coverage 116 = .ok (.iaload, 1) := by decide +kernel
theorem dX7_coverage_117 : decode cX7_coverage 117 = .ok (.aload_n 0, 1) := by decide +kernel
theorem dX7_coverage_118 : decode cX7_coverage 118 = .ok (.getfield 17, 3) := by decide +kernel
theorem dX7_coverage_121 : decode cX7_coverage 121 = .ok (.iload_n 3, 1) := by decide +kernel
theorem dX7_coverage_122 : decode cX7_coverage 122 = .ok (.invokestatic 78, 3) := by decide +kernel
theorem dX7_coverage_125 : decode cX7_coverage 125 = .ok (.iconst 1, 1) := by decide +kernel
theorem dX7_coverage_126 : decode cX7_coverage 126 = .ok (.iadd, 1) := by decide +kernel
theorem dX7_coverage_127 : decode cX7_coverage 127 = .ok (.iaload, 1) := by decide +kernel
theorem dX7_coverage_128 : decode cX7_coverage 128 = .ok (.if_icmp .ne 7, 3) := by decide +kernel
theorem dX7_coverage_131 : decode cX7_coverage 131 = .ok (.iconst 1, 1) := by decide +kernel
theorem dX7_coverage_132 : decode cX7_coverage 132 = .ok (.goto 4, 3) := by decide +kernel
theorem dX7_coverage_135 : decode cX7_coverage 135 = .ok (.iconst 0, 1) := by decide +kernel
theorem dX7_coverage_136 : decode cX7_coverage 136 = .ok (.istore 7, 2) := by decide +kernel
theorem dX7_coverage_138 : decode cX7_coverage 138 = .ok (.iload_n 2, 1) := by decide +kernel
theorem dX7_coverage_139 : decode cX7_coverage 139 = .ok (.iload 7, 2) := by decide +kernel
theorem dX7_coverage_141 : decode cX7_coverage 141 = .ok (.ifCond .eq 7, 3) := by decide +kernel
theorem dX7_coverage_144 : decode cX7_coverage 144 = .ok (.iconst 1, 1) := by decide +kernel
theorem dX7_coverage_145 : decode cX7_coverage 145 = .ok (.goto 4, 3) := by decide +kernel
theorem dX7_coverage_148 : decode cX7_coverage 148 = .ok (.iconst 0, 1) := by decide +kernel
theorem dX7_coverage_149 : decode cX7_coverage 149 = .ok (.iadd, 1) := by decide +kernel
theorem dX7_coverage_150 : decode cX7_coverage 150 = .ok (.istore_n 2, 1) := by decide +kernel
theorem dX7_coverage_151 : decode cX7_coverage 151 = .ok (.iload_n 1, 1) := by decide +kernel
theorem dX7_coverage_152 : decode cX7_coverage 152 = .ok (.iload 7, 2) := by decide +kernel
theorem dX7_coverage_154 : decode cX7_coverage 154 = .ok (.ifCond .eq 26, 3) := by decide +kernel
theorem dX7_coverage_157 : decode cX7_coverage 157 = .ok (.aload_n 0, 1) := by decide +kernel
theorem dX7_coverage_158 : decode cX7_coverage 158 = .ok (.iload_n 3, 1) := by decide +kernel
theorem dX7_coverage_159 : decode cX7_coverage 159 = .ok (.iload 4, 2) := by decide +kernel
theorem dX7_coverage_161 : decode cX7_coverage 161 = .ok (.invokevirtual 325, 3) := by decide +kernel
theorem dX7_coverage_164 : decode cX7_coverage 164 = .ok (.aload_n 0, 1) := by decide +kernel
theorem dX7_coverage_165 : decode cX7_coverage 165 = .ok (.getfield 17, 3) := by decide +kernel
theorem dX7_coverage_168 : decode cX7_coverage 168 = .ok (.iload 5, 2) := by decide +kernel
theorem dX7_coverage_170 : decode cX7_coverage 170 = .ok (.iconst 4, 1) := by decide +kernel
theorem dX7_coverage_171 : decode cX7_coverage 171 = .ok (.iadd, 1) := by decide +kernel
theorem dX7_coverage_172 : decode cX7_coverage 172 = .ok (.iaload, 1) := by decide +kernel
theorem dX7_coverage_173 : decode cX7_coverage 173 = .ok (.if_icmp .ne 7, 3) := by decide +kernel
theorem dX7_coverage_176 : decode cX7_coverage 176 = .ok (.iconst 1, 1) := by decide +kernel
theorem dX7_coverage_177 : decode cX7_coverage 177 = .ok (.goto 4, 3) := by decide +kernel
theorem dX7_coverage_180 : decode cX7_coverage 180 = .ok (.iconst 0, 1) := by decide +kernel
theorem dX7_coverage_181 : decode cX7_coverage 181 = .ok (.iadd, 1) := by decide +kernel
theorem dX7_coverage_182 : decode cX7_coverage 182 = .ok (.istore_n 1, 1) := by decide +kernel
theorem dX7_coverage_183 : decode cX7_coverage 183 = .ok (.iinc 4 1, 3) := by decide +kernel
theorem dX7_coverage_186 : decode cX7_coverage 186 = .ok (.goto (-164), 3) := by decide +kernel
theorem dX7_coverage_189 : decode cX7_coverage 189 = .ok (.iinc 3 1, 3) := by decide +kernel
theorem dX7_coverage_192 : decode cX7_coverage 192 = .ok (.goto (-181), 3) := by decide +kernel
theorem dX7_coverage_195 : decode cX7_coverage 195 = .ok (.iload_n 2, 1) := by decide +kernel
theorem dX7_coverage_196 : decode cX7_coverage 196 = .ok (.ifCond .ne 7, 3) := by decide +kernel
theorem dX7_coverage_199 : decode cX7_coverage 199 = .ok (.dconst 0, 1) := by decide +kernel
theorem dX7_coverage_200 : decode cX7_coverage 200 = .ok (.goto 8, 3) := by decide +kernel
theorem dX7_coverage_208 : decode cX7_coverage 208 = .ok (.dreturn, 1) := by decide +kernel
theorem dX7_why_0 : decode cX7_why 0 = .ok (.aload_n 0, 1) := by decide +kernel
theorem dX7_why_1 : decode cX7_why 1 = .ok (.aload_n 0, 1) := by decide +kernel
theorem dX7_why_2 : decode cX7_why 2 = .ok (.iload_n 1, 1) := by decide +kernel
theorem dX7_why_3 : decode cX7_why 3 = .ok (.invokevirtual 305, 3) := by decide +kernel
theorem dX7_why_6 : decode cX7_why 6 = .ok (.ifCond .ne 7, 3) := by decide +kernel
theorem dX7_why_9 : decode cX7_why 9 = .ok (.iconst 1, 1) := by decide +kernel
theorem dX7_why_10 : decode cX7_why 10 = .ok (.goto 18, 3) := by decide +kernel
theorem dX7_why_13 : decode cX7_why 13 = .ok (.iload_n 2, 1) := by decide +kernel
theorem dX7_why_14 : decode cX7_why 14 = .ok (.i2l, 1) := by decide +kernel
theorem dX7_why_15 : decode cX7_why 15 = .ok (.lconst 0, 1) := by decide +kernel
theorem dX7_why_16 : decode cX7_why 16 = .ok (.lconst 1, 1) := by decide +kernel
theorem dX7_why_17 : decode cX7_why 17 = .ok (.invokestatic 92, 3) := by decide +kernel
theorem dX7_why_20 : decode cX7_why 20 = .ok (.ifCond .eq 7, 3) := by decide +kernel
theorem dX7_why_23 : decode cX7_why 23 = .ok (.iconst 0, 1) := by decide +kernel
theorem dX7_why_24 : decode cX7_why 24 = .ok (.goto 4, 3) := by decide +kernel
theorem dX7_why_27 : decode cX7_why 27 = .ok (.iconst 2, 1) := by decide +kernel
theorem dX7_why_28 : decode cX7_why 28 = .ok (.putfield 71, 3) := by decide +kernel
theorem dX7_why_31 : decode cX7_why 31 = .ok (.aload_n 0, 1) := by decide +kernel
theorem dX7_why_32 : decode cX7_why 32 = .ok (.getfield 71, 3) := by decide +kernel
theorem dX7_why_35 : decode cX7_why 35 = .ok (.ifCond .le 5, 3) := by decide +kernel
theorem dX7_why_38 : decode cX7_why 38 = .ok (.iconst 0, 1) := by decide +kernel
theorem dX7_why_39 : decode cX7_why 39 = .ok (.ireturn, 1) := by decide +kernel
theorem dX7_why_40 : decode cX7_why 40 = .ok (.iload_n 1, 1) := by decide +kernel
theorem dX7_why_41 : decode cX7_why 41 = .ok (.invokestatic 74, 3) := by decide +kernel
theorem dX7_why_44 : decode cX7_why 44 = .ok (.istore_n 3, 1) := by decide +kernel
theorem dX7_why_45 : decode cX7_why 45 = .ok (.aload_n 0, 1) := by decide +kernel
theorem dX7_why_46 : decode cX7_why 46 = .ok (.getfield 17, 3) := by decide +kernel
theorem dX7_why_49 : decode cX7_why 49 = .ok (.iload_n 3, 1) := by decide +kernel
theorem dX7_why_50 : decode cX7_why 50 = .ok (.bipush 6, 2) := by decide +kernel
theorem dX7_why_52 : decode cX7_why 52 = .ok (.iadd, 1) := by decide +kernel
theorem dX7_why_53 : decode cX7_why 53 = .ok (.iaload, 1) := by decide +kernel
theorem dX7_why_54 : decode cX7_why 54 = .ok (.istore 4, 2) := by decide +kernel
theorem dX7_why_56 : decode cX7_why 56 = .ok (.iload 4, 2) := by decide +kernel
theorem dX7_why_58 : decode cX7_why 58 = .ok (.iconst 2, 1) := by decide +kernel
theorem dX7_why_59 : decode cX7_why 59 = .ok (.if_icmp .ne 7, 3) := by decide +kernel
theorem dX7_why_62 : decode cX7_why 62 = .ok (.iconst 0, 1) := by decide +kernel
theorem dX7_why_63 : decode cX7_why 63 = .ok (.goto 83, 3) := by decide +kernel
theorem dX7_why_66 : decode cX7_why 66 = .ok (.iload 4, 2) := by decide +kernel
theorem dX7_why_68 : decode cX7_why 68 = .ok (.iconst 3, 1) := by decide +kernel
theorem dX7_why_69 : decode cX7_why 69 = .ok (.if_icmp .ne 7, 3) := by decide +kernel
theorem dX7_why_72 : decode cX7_why 72 = .ok (.iconst 1, 1) := by decide +kernel
theorem dX7_why_73 : decode cX7_why 73 = .ok (.goto 73, 3) := by decide +kernel
theorem dX7_why_76 : decode cX7_why 76 = .ok (.aload_n 0, 1) := by decide +kernel
theorem dX7_why_77 : decode cX7_why 77 = .ok (.getfield 17, 3) := by decide +kernel
theorem dX7_why_80 : decode cX7_why 80 = .ok (.aload_n 0, 1) := by decide +kernel
theorem dX7_why_81 : decode cX7_why 81 = .ok (.getfield 17, 3) := by decide +kernel
theorem dX7_why_84 : decode cX7_why 84 = .ok (.iload_n 3, 1) := by decide +kernel
theorem dX7_why_85 : decode cX7_why 85 = .ok (.iconst 0, 1) := by decide +kernel
theorem dX7_why_86 : decode cX7_why 86 = .ok (.iadd, 1) := by decide +kernel
theorem dX7_why_87 : decode cX7_why 87 = .ok (.iaload, 1) := by decide +kernel
theorem dX7_why_88 : decode cX7_why 88 = .ok (.invokestatic 78, 3) := by decide +kernel
theorem dX7_why_91 : decode cX7_why 91 = .ok (.iconst 0, 1) := by decide +kernel
theorem dX7_why_92 : decode cX7_why 92 = .ok (.iadd, 1) := by decide +kernel
theorem dX7_why_93 : decode cX7_why 93 = .ok (.iaload, 1) := by decide +kernel
theorem dX7_why_94 : decode cX7_why 94 = .ok (.ifCond .ne 7, 3) := by decide +kernel
theorem dX7_why_97 : decode cX7_why 97 = .ok (.iconst 2, 1) := by decide +kernel
theorem dX7_why_98 : decode cX7_why 98 = .ok (.goto 48, 3) := by decide +kernel
theorem dX7_why_101 : decode cX7_why 101 = .ok (.iload 4, 2) := by decide +kernel
theorem dX7_why_103 : decode cX7_why 103 = .ok (.iconst 1, 1) := by decide +kernel
theorem dX7_why_104 : decode cX7_why 104 = .ok (.if_icmp .ne 7, 3) := by decide +kernel
theorem dX7_why_107 : decode cX7_why 107 = .ok (.iconst 3, 1) := by decide +kernel
theorem dX7_why_108 : decode cX7_why 108 = .ok (.goto 38, 3) := by decide +kernel
theorem dX7_why_111 : decode cX7_why 111 = .ok (.aload_n 0, 1) := by decide +kernel
theorem dX7_why_112 : decode cX7_why 112 = .ok (.getfield 17, 3) := by decide +kernel
theorem dX7_why_115 : decode cX7_why 115 = .ok (.iload_n 3, 1) := by decide +kernel
theorem dX7_why_116 : decode cX7_why 116 = .ok (.bipush 7, 2) := by decide +kernel
theorem dX7_why_118 : decode cX7_why 118 = .ok (.iadd, 1) := by decide +kernel
theorem dX7_why_119 : decode cX7_why 119 = .ok (.iaload, 1) := by decide +kernel
theorem dX7_why_120 : decode cX7_why 120 = .ok (.ifCond .ne 25, 3) := by decide +kernel
theorem dX7_why_123 : decode cX7_why 123 = .ok (.aload_n 0, 1) := by decide +kernel
theorem dX7_why_124 : decode cX7_why 124 = .ok (.getfield 17, 3) := by decide +kernel
theorem dX7_why_127 : decode cX7_why 127 = .ok (.iload_n 3, 1) := by decide +kernel
theorem dX7_why_128 : decode cX7_why 128 = .ok (.bipush 8, 2) := by decide +kernel
theorem dX7_why_130 : decode cX7_why 130 = .ok (.iadd, 1) := by decide +kernel
theorem dX7_why_131 : decode cX7_why 131 = .ok (.iaload, 1) := by decide +kernel
theorem dX7_why_132 : decode cX7_why 132 = .ok (.aload_n 0, 1) := by decide +kernel
theorem dX7_why_133 : decode cX7_why 133 = .ok (.getfield 17, 3) := by decide +kernel
theorem dX7_why_136 : decode cX7_why 136 = .ok (.iconst 0, 1) := by decide +kernel
theorem dX7_why_137 : decode cX7_why 137 = .ok (.iaload, 1) := by decide +kernel
theorem dX7_why_138 : decode cX7_why 138 = .ok (.if_icmp .le 7, 3) := by decide +kernel
theorem dX7_why_141 : decode cX7_why 141 = .ok (.iconst 4, 1) := by decide +kernel
theorem dX7_why_142 : decode cX7_why 142 = .ok (.goto 4, 3) := by decide +kernel
theorem dX7_why_145 : decode cX7_why 145 = .ok (.iconst 5, 1) := by decide +kernel
theorem dX7_why_146 : decode cX7_why 146 = .ok (.istore 5, 2) := by decide +kernel
theorem dX7_why_148 : decode cX7_why 148 = .ok (.iload_n 2, 1) := by decide +kernel
theorem dX7_why_149 : decode cX7_why 149 = .ok (.ifCond .ne 6, 3) := by decide +kernel
theorem dX7_why_152 : decode cX7_why 152 = .ok (.iload 5, 2) := by decide +kernel
theorem dX7_why_154 : decode cX7_why 154 = .ok (.ireturn, 1) := by decide +kernel
theorem dX7_why_155 : decode cX7_why 155 = .ok (.iload 5, 2) := by decide +kernel
theorem dX7_why_157 : decode cX7_why 157 = .ok (.iconst 3, 1) := by decide +kernel
theorem dX7_why_158 : decode cX7_why 158 = .ok (.if_icmp .eq 9, 3) := by decide +kernel
theorem dX7_why_161 : decode cX7_why 161 = .ok (.iload 5, 2) := by decide +kernel
theorem dX7_why_163 : decode cX7_why 163 = .ok (.iconst 4, 1) := by decide +kernel
theorem dX7_why_164 : decode cX7_why 164 = .ok (.if_icmp .ne 22, 3) := by decide +kernel
theorem dX7_why_186 : decode cX7_why 186 = .ok (.iload 5, 2) := by decide +kernel
theorem dX7_why_188 : decode cX7_why 188 = .ok (.iconst 5, 1) := by decide +kernel
theorem dX7_why_189 : decode cX7_why 189 = .ok (.if_icmp .ne 17, 3) := by decide +kernel
theorem dX7_why_192 : decode cX7_why 192 = .ok (.iconst 3, 1) := by decide +kernel
theorem dX7_why_193 : decode cX7_why 193 = .ok (.aload_n 0, 1) := by decide +kernel
theorem dX7_why_194 : decode cX7_why 194 = .ok (.getfield 17, 3) := by decide +kernel
theorem dX7_why_197 : decode cX7_why 197 = .ok (.iload_n 3, 1) := by decide +kernel
theorem dX7_why_198 : decode cX7_why 198 = .ok (.bipush 7, 2) := by decide +kernel
theorem dX7_why_200 : decode cX7_why 200 = .ok (.iadd, 1) := by decide +kernel
theorem dX7_why_201 : decode cX7_why 201 = .ok (.iaload, 1) := by decide +kernel
theorem dX7_why_202 : decode cX7_why 202 = .ok (.isub, 1) := by decide +kernel
theorem dX7_why_203 : decode cX7_why 203 = .ok (.goto 4, 3) := by decide +kernel
theorem dX7_why_207 : decode cX7_why 207 = .ok (.ireturn, 1) := by decide +kernel
theorem dX7_establishes_0 : decode cX7_establishes 0 = .ok (.iconst 0, 1) := by decide +kernel
theorem dX7_establishes_1 : decode cX7_establishes 1 = .ok (.istore_n 2, 1) := by decide +kernel
theorem dX7_establishes_2 : decode cX7_establishes 2 = .ok (.iload_n 2, 1) := by decide +kernel
theorem dX7_establishes_3 : decode cX7_establishes 3 = .ok (.bipush 100, 2) := by decide +kernel
theorem dX7_establishes_5 : decode cX7_establishes 5 = .ok (.if_icmp .gt 29, 3) := by decide +kernel
theorem dX7_establishes_8 : decode cX7_establishes 8 = .ok (.aload_n 0, 1) := by decide +kernel
theorem dX7_establishes_9 : decode cX7_establishes 9 = .ok (.getfield 17, 3) := by decide +kernel
theorem dX7_establishes_12 : decode cX7_establishes 12 = .ok (.iload_n 1, 1) := by decide +kernel
theorem dX7_establishes_13 : decode cX7_establishes 13 = .ok (.invokestatic 74, 3) := by decide +kernel
theorem dX7_establishes_16 : decode cX7_establishes 16 = .ok (.bipush 6, 2) := by decide +kernel
theorem dX7_establishes_18 : decode cX7_establishes 18 = .ok (.iadd, 1) := by decide +kernel
theorem dX7_establishes_19 : decode cX7_establishes 19 = .ok (.iaload, 1) := by decide +kernel
theorem dX7_establishes_20 : decode cX7_establishes 20 = .ok (.iconst 2, 1) := by decide +kernel
theorem dX7_establishes_21 : decode cX7_establishes 21 = .ok (.if_icmp .eq 13, 3) := by decide +kernel
theorem dX7_establishes_24 : decode cX7_establishes 24 = .ok (.aload_n 0, 1) := by decide +kernel
theorem dX7_establishes_25 : decode cX7_establishes 25 = .ok (.invokevirtual 334, 3) := by decide +kernel
theorem dX7_establishes_28 : decode cX7_establishes 28 = .ok (.iinc 2 1, 3) := by decide +kernel
theorem dX7_establishes_31 : decode cX7_establishes 31 = .ok (.goto (-29), 3) := by decide +kernel
theorem dX7_establishes_34 : decode cX7_establishes 34 = .ok (.iload_n 2, 1) := by decide +kernel
theorem dX7_establishes_35 : decode cX7_establishes 35 = .ok (.ireturn, 1) := by decide +kernel
theorem dX7_establishedIn_0 : decode cX7_establishedIn 0 = .ok (.aload_n 0, 1) := by decide +kernel
theorem dX7_establishedIn_1 : decode cX7_establishedIn 1 = .ok (.aload_n 0, 1) := by decide +kernel
theorem dX7_establishedIn_2 : decode cX7_establishedIn 2 = .ok (.iload_n 1, 1) := by decide +kernel
theorem dX7_establishedIn_3 : decode cX7_establishedIn 3 = .ok (.invokevirtual 305, 3) := by decide +kernel
theorem dX7_establishedIn_6 : decode cX7_establishedIn 6 = .ok (.ifCond .eq 7, 3) := by decide +kernel
theorem dX7_establishedIn_9 : decode cX7_establishedIn 9 = .ok (.iconst 0, 1) := by decide +kernel
theorem dX7_establishedIn_10 : decode cX7_establishedIn 10 = .ok (.goto 4, 3) := by decide +kernel
theorem dX7_establishedIn_13 : decode cX7_establishedIn 13 = .ok (.iconst 1, 1) := by decide +kernel
theorem dX7_establishedIn_14 : decode cX7_establishedIn 14 = .ok (.putfield 71, 3) := by decide +kernel
theorem dX7_establishedIn_17 : decode cX7_establishedIn 17 = .ok (.aload_n 0, 1) := by decide +kernel
theorem dX7_establishedIn_18 : decode cX7_establishedIn 18 = .ok (.getfield 71, 3) := by decide +kernel
theorem dX7_establishedIn_21 : decode cX7_establishedIn 21 = .ok (.ifCond .le 5, 3) := by decide +kernel
theorem dX7_establishedIn_24 : decode cX7_establishedIn 24 = .ok (.iconst 0, 1) := by decide +kernel
theorem dX7_establishedIn_25 : decode cX7_establishedIn 25 = .ok (.ireturn, 1) := by decide +kernel
theorem dX7_establishedIn_26 : decode cX7_establishedIn 26 = .ok (.aload_n 0, 1) := by decide +kernel
theorem dX7_establishedIn_27 : decode cX7_establishedIn 27 = .ok (.invokevirtual 337, 3) := by decide +kernel
theorem dX7_establishedIn_30 : decode cX7_establishedIn 30 = .ok (.aload_n 0, 1) := by decide +kernel
theorem dX7_establishedIn_31 : decode cX7_establishedIn 31 = .ok (.iload_n 1, 1) := by decide +kernel
theorem dX7_establishedIn_32 : decode cX7_establishedIn 32 = .ok (.invokevirtual 340, 3) := by decide +kernel
theorem dX7_establishedIn_35 : decode cX7_establishedIn 35 = .ok (.istore_n 2, 1) := by decide +kernel
theorem dX7_establishedIn_36 : decode cX7_establishedIn 36 = .ok (.aload_n 0, 1) := by decide +kernel
theorem dX7_establishedIn_37 : decode cX7_establishedIn 37 = .ok (.invokevirtual 343, 3) := by decide +kernel
theorem dX7_establishedIn_40 : decode cX7_establishedIn 40 = .ok (.aload_n 0, 1) := by decide +kernel
theorem dX7_establishedIn_41 : decode cX7_establishedIn 41 = .ok (.iload_n 2, 1) := by decide +kernel
theorem dX7_establishedIn_42 : decode cX7_establishedIn 42 = .ok (.bipush 100, 2) := by decide +kernel
theorem dX7_establishedIn_44 : decode cX7_establishedIn 44 = .ok (.if_icmp .le 7, 3) := by decide +kernel
theorem dX7_establishedIn_47 : decode cX7_establishedIn 47 = .ok (.iconst 2, 1) := by decide +kernel
theorem dX7_establishedIn_48 : decode cX7_establishedIn 48 = .ok (.goto 4, 3) := by decide +kernel
theorem dX7_establishedIn_51 : decode cX7_establishedIn 51 = .ok (.iconst 0, 1) := by decide +kernel
theorem dX7_establishedIn_52 : decode cX7_establishedIn 52 = .ok (.putfield 71, 3) := by decide +kernel
theorem dX7_establishedIn_55 : decode cX7_establishedIn 55 = .ok (.aload_n 0, 1) := by decide +kernel
theorem dX7_establishedIn_56 : decode cX7_establishedIn 56 = .ok (.getfield 71, 3) := by decide +kernel
theorem dX7_establishedIn_59 : decode cX7_establishedIn 59 = .ok (.ifCond .le 7, 3) := by decide +kernel
theorem dX7_establishedIn_62 : decode cX7_establishedIn 62 = .ok (.iconst 0, 1) := by decide +kernel
theorem dX7_establishedIn_63 : decode cX7_establishedIn 63 = .ok (.goto 4, 3) := by decide +kernel
theorem dX7_establishedIn_66 : decode cX7_establishedIn 66 = .ok (.iload_n 2, 1) := by decide +kernel
theorem dX7_establishedIn_67 : decode cX7_establishedIn 67 = .ok (.ireturn, 1) := by decide +kernel
theorem dX7_numberIn_0 : decode cX7_numberIn 0 = .ok (.aload_n 0, 1) := by decide +kernel
theorem dX7_numberIn_1 : decode cX7_numberIn 1 = .ok (.aload_n 0, 1) := by decide +kernel
theorem dX7_numberIn_2 : decode cX7_numberIn 2 = .ok (.iload_n 1, 1) := by decide +kernel
theorem dX7_numberIn_3 : decode cX7_numberIn 3 = .ok (.invokevirtual 305, 3) := by decide +kernel
theorem dX7_numberIn_6 : decode cX7_numberIn 6 = .ok (.ifCond .ne 7, 3) := by decide +kernel
theorem dX7_numberIn_9 : decode cX7_numberIn 9 = .ok (.iconst 1, 1) := by decide +kernel
theorem dX7_numberIn_10 : decode cX7_numberIn 10 = .ok (.goto 20, 3) := by decide +kernel
theorem dX7_numberIn_13 : decode cX7_numberIn 13 = .ok (.iload_n 2, 1) := by decide +kernel
theorem dX7_numberIn_14 : decode cX7_numberIn 14 = .ok (.i2l, 1) := by decide +kernel
theorem dX7_numberIn_15 : decode cX7_numberIn 15 = .ok (.lconst 0, 1) := by decide +kernel
theorem dX7_numberIn_16 : decode cX7_numberIn 16 = .ok (.ldc2_w 346, 3) := by decide +kernel
theorem dX7_numberIn_19 : decode cX7_numberIn 19 = .ok (.invokestatic 92, 3) := by decide +kernel
theorem dX7_numberIn_22 : decode cX7_numberIn 22 = .ok (.ifCond .eq 7, 3) := by decide +kernel
theorem dX7_numberIn_25 : decode cX7_numberIn 25 = .ok (.iconst 0, 1) := by decide +kernel
theorem dX7_numberIn_26 : decode cX7_numberIn 26 = .ok (.goto 4, 3) := by decide +kernel
theorem dX7_numberIn_29 : decode cX7_numberIn 29 = .ok (.iconst 2, 1) := by decide +kernel
theorem dX7_numberIn_30 : decode cX7_numberIn 30 = .ok (.putfield 71, 3) := by decide +kernel
theorem dX7_numberIn_33 : decode cX7_numberIn 33 = .ok (.aload_n 0, 1) := by decide +kernel
theorem dX7_numberIn_34 : decode cX7_numberIn 34 = .ok (.getfield 71, 3) := by decide +kernel
theorem dX7_numberIn_37 : decode cX7_numberIn 37 = .ok (.ifCond .le 5, 3) := by decide +kernel
theorem dX7_numberIn_40 : decode cX7_numberIn 40 = .ok (.iconst 0, 1) := by decide +kernel
theorem dX7_numberIn_41 : decode cX7_numberIn 41 = .ok (.ireturn, 1) := by decide +kernel
theorem dX7_numberIn_42 : decode cX7_numberIn 42 = .ok (.aload_n 0, 1) := by decide +kernel
theorem dX7_numberIn_43 : decode cX7_numberIn 43 = .ok (.invokevirtual 337, 3) := by decide +kernel
theorem dX7_numberIn_46 : decode cX7_numberIn 46 = .ok (.iconst 0, 1) := by decide +kernel
theorem dX7_numberIn_47 : decode cX7_numberIn 47 = .ok (.istore_n 3, 1) := by decide +kernel
theorem dX7_numberIn_48 : decode cX7_numberIn 48 = .ok (.iload_n 3, 1) := by decide +kernel
theorem dX7_numberIn_49 : decode cX7_numberIn 49 = .ok (.iload_n 2, 1) := by decide +kernel
theorem dX7_numberIn_50 : decode cX7_numberIn 50 = .ok (.if_icmp .ge 13, 3) := by decide +kernel
theorem dX7_numberIn_53 : decode cX7_numberIn 53 = .ok (.aload_n 0, 1) := by decide +kernel
theorem dX7_numberIn_54 : decode cX7_numberIn 54 = .ok (.invokevirtual 334, 3) := by decide +kernel
theorem dX7_numberIn_57 : decode cX7_numberIn 57 = .ok (.iinc 3 1, 3) := by decide +kernel
theorem dX7_numberIn_60 : decode cX7_numberIn 60 = .ok (.goto (-12), 3) := by decide +kernel
theorem dX7_numberIn_63 : decode cX7_numberIn 63 = .ok (.aload_n 0, 1) := by decide +kernel
theorem dX7_numberIn_64 : decode cX7_numberIn 64 = .ok (.getfield 17, 3) := by decide +kernel
theorem dX7_numberIn_67 : decode cX7_numberIn 67 = .ok (.iload_n 1, 1) := by decide +kernel
theorem dX7_numberIn_68 : decode cX7_numberIn 68 = .ok (.invokestatic 74, 3) := by decide +kernel
theorem dX7_numberIn_71 : decode cX7_numberIn 71 = .ok (.iconst 3, 1) := by decide +kernel
theorem dX7_numberIn_72 : decode cX7_numberIn 72 = .ok (.iadd, 1) := by decide +kernel
theorem dX7_numberIn_73 : decode cX7_numberIn 73 = .ok (.iaload, 1) := by decide +kernel
theorem dX7_numberIn_74 : decode cX7_numberIn 74 = .ok (.istore_n 3, 1) := by decide +kernel
theorem dX7_numberIn_75 : decode cX7_numberIn 75 = .ok (.aload_n 0, 1) := by decide +kernel
theorem dX7_numberIn_76 : decode cX7_numberIn 76 = .ok (.invokevirtual 343, 3) := by decide +kernel
theorem dX7_numberIn_79 : decode cX7_numberIn 79 = .ok (.iload_n 3, 1) := by decide +kernel
theorem dX7_numberIn_80 : decode cX7_numberIn 80 = .ok (.ireturn, 1) := by decide +kernel
theorem dX7_knownIn_0 : decode cX7_knownIn 0 = .ok (.aload_n 0, 1) := by decide +kernel
theorem dX7_knownIn_1 : decode cX7_knownIn 1 = .ok (.aload_n 0, 1) := by decide +kernel
theorem dX7_knownIn_2 : decode cX7_knownIn 2 = .ok (.iload_n 1, 1) := by decide +kernel
theorem dX7_knownIn_3 : decode cX7_knownIn 3 = .ok (.invokevirtual 300, 3) := by decide +kernel
theorem dX7_knownIn_6 : decode cX7_knownIn 6 = .ok (.ifCond .eq 15, 3) := by decide +kernel
theorem dX7_knownIn_9 : decode cX7_knownIn 9 = .ok (.aload_n 0, 1) := by decide +kernel
theorem dX7_knownIn_10 : decode cX7_knownIn 10 = .ok (.iload_n 2, 1) := by decide +kernel
theorem dX7_knownIn_11 : decode cX7_knownIn 11 = .ok (.invokevirtual 305, 3) := by decide +kernel
theorem dX7_knownIn_14 : decode cX7_knownIn 14 = .ok (.ifCond .eq 7, 3) := by decide +kernel
theorem dX7_knownIn_17 : decode cX7_knownIn 17 = .ok (.iconst 0, 1) := by decide +kernel
theorem dX7_knownIn_18 : decode cX7_knownIn 18 = .ok (.goto 4, 3) := by decide +kernel
theorem dX7_knownIn_21 : decode cX7_knownIn 21 = .ok (.iconst 1, 1) := by decide +kernel
theorem dX7_knownIn_22 : decode cX7_knownIn 22 = .ok (.putfield 71, 3) := by decide +kernel
theorem dX7_knownIn_25 : decode cX7_knownIn 25 = .ok (.aload_n 0, 1) := by decide +kernel
theorem dX7_knownIn_26 : decode cX7_knownIn 26 = .ok (.getfield 71, 3) := by decide +kernel
theorem dX7_knownIn_29 : decode cX7_knownIn 29 = .ok (.ifCond .le 5, 3) := by decide +kernel
theorem dX7_knownIn_32 : decode cX7_knownIn 32 = .ok (.iconst 0, 1) := by decide +kernel
theorem dX7_knownIn_33 : decode cX7_knownIn 33 = .ok (.ireturn, 1) := by decide +kernel
theorem dX7_knownIn_34 : decode cX7_knownIn 34 = .ok (.aload_n 0, 1) := by decide +kernel
theorem dX7_knownIn_35 : decode cX7_knownIn 35 = .ok (.invokevirtual 337, 3) := by decide +kernel
theorem dX7_knownIn_38 : decode cX7_knownIn 38 = .ok (.iconst 0, 1) := by decide +kernel
theorem dX7_knownIn_39 : decode cX7_knownIn 39 = .ok (.istore_n 3, 1) := by decide +kernel
theorem dX7_knownIn_40 : decode cX7_knownIn 40 = .ok (.iload_n 3, 1) := by decide +kernel
theorem dX7_knownIn_41 : decode cX7_knownIn 41 = .ok (.bipush 100, 2) := by decide +kernel
theorem dX7_knownIn_43 : decode cX7_knownIn 43 = .ok (.if_icmp .gt 33, 3) := by decide +kernel
theorem dX7_knownIn_46 : decode cX7_knownIn 46 = .ok (.aload_n 0, 1) := by decide +kernel
theorem dX7_knownIn_47 : decode cX7_knownIn 47 = .ok (.iload_n 1, 1) := by decide +kernel
theorem dX7_knownIn_48 : decode cX7_knownIn 48 = .ok (.iload_n 2, 1) := by decide +kernel
theorem dX7_knownIn_49 : decode cX7_knownIn 49 = .ok (.invokevirtual 325, 3) := by decide +kernel
theorem dX7_knownIn_52 : decode cX7_knownIn 52 = .ok (.aload_n 0, 1) := by decide +kernel
theorem dX7_knownIn_53 : decode cX7_knownIn 53 = .ok (.getfield 17, 3) := by decide +kernel
theorem dX7_knownIn_56 : decode cX7_knownIn 56 = .ok (.iload_n 2, 1) := by decide +kernel
theorem dX7_knownIn_57 : decode cX7_knownIn 57 = .ok (.invokestatic 74, 3) := by decide +kernel
theorem dX7_knownIn_60 : decode cX7_knownIn 60 = .ok (.iconst 4, 1) := by decide +kernel
theorem dX7_knownIn_61 : decode cX7_knownIn 61 = .ok (.iadd, 1) := by decide +kernel
theorem dX7_knownIn_62 : decode cX7_knownIn 62 = .ok (.iaload, 1) := by decide +kernel
theorem dX7_knownIn_63 : decode cX7_knownIn 63 = .ok (.if_icmp .eq 13, 3) := by decide +kernel
theorem dX7_knownIn_66 : decode cX7_knownIn 66 = .ok (.aload_n 0, 1) := by decide +kernel
theorem dX7_knownIn_67 : decode cX7_knownIn 67 = .ok (.invokevirtual 334, 3) := by decide +kernel
theorem dX7_knownIn_70 : decode cX7_knownIn 70 = .ok (.iinc 3 1, 3) := by decide +kernel
theorem dX7_knownIn_73 : decode cX7_knownIn 73 = .ok (.goto (-33), 3) := by decide +kernel
theorem dX7_knownIn_76 : decode cX7_knownIn 76 = .ok (.aload_n 0, 1) := by decide +kernel
theorem dX7_knownIn_77 : decode cX7_knownIn 77 = .ok (.invokevirtual 343, 3) := by decide +kernel
theorem dX7_knownIn_80 : decode cX7_knownIn 80 = .ok (.aload_n 0, 1) := by decide +kernel
theorem dX7_knownIn_81 : decode cX7_knownIn 81 = .ok (.iload_n 3, 1) := by decide +kernel
theorem dX7_knownIn_82 : decode cX7_knownIn 82 = .ok (.bipush 100, 2) := by decide +kernel
theorem dX7_knownIn_84 : decode cX7_knownIn 84 = .ok (.if_icmp .le 7, 3) := by decide +kernel
theorem dX7_knownIn_87 : decode cX7_knownIn 87 = .ok (.iconst 2, 1) := by decide +kernel
theorem dX7_knownIn_88 : decode cX7_knownIn 88 = .ok (.goto 4, 3) := by decide +kernel
theorem dX7_knownIn_91 : decode cX7_knownIn 91 = .ok (.iconst 0, 1) := by decide +kernel
theorem dX7_knownIn_92 : decode cX7_knownIn 92 = .ok (.putfield 71, 3) := by decide +kernel
theorem dX7_knownIn_95 : decode cX7_knownIn 95 = .ok (.aload_n 0, 1) := by decide +kernel
theorem dX7_knownIn_96 : decode cX7_knownIn 96 = .ok (.getfield 71, 3) := by decide +kernel
theorem dX7_knownIn_99 : decode cX7_knownIn 99 = .ok (.ifCond .le 7, 3) := by decide +kernel
theorem dX7_knownIn_102 : decode cX7_knownIn 102 = .ok (.iconst 0, 1) := by decide +kernel
theorem dX7_knownIn_103 : decode cX7_knownIn 103 = .ok (.goto 4, 3) := by decide +kernel
theorem dX7_knownIn_106 : decode cX7_knownIn 106 = .ok (.iload_n 3, 1) := by decide +kernel
theorem dX7_knownIn_107 : decode cX7_knownIn 107 = .ok (.ireturn, 1) := by decide +kernel
theorem dX7_messagesIn_0 : decode cX7_messagesIn 0 = .ok (.aload_n 0, 1) := by decide +kernel
theorem dX7_messagesIn_1 : decode cX7_messagesIn 1 = .ok (.iload_n 1, 1) := by decide +kernel
theorem dX7_messagesIn_2 : decode cX7_messagesIn 2 = .ok (.i2l, 1) := by decide +kernel
theorem dX7_messagesIn_3 : decode cX7_messagesIn 3 = .ok (.lconst 0, 1) := by decide +kernel
theorem dX7_messagesIn_4 : decode cX7_messagesIn 4 = .ok (.ldc2_w 346, 3) := by decide +kernel
theorem dX7_messagesIn_7 : decode cX7_messagesIn 7 = .ok (.invokestatic 92, 3) := by decide +kernel
theorem dX7_messagesIn_10 : decode cX7_messagesIn 10 = .ok (.ifCond .eq 7, 3) := by decide +kernel
theorem dX7_messagesIn_13 : decode cX7_messagesIn 13 = .ok (.iconst 0, 1) := by decide +kernel
theorem dX7_messagesIn_14 : decode cX7_messagesIn 14 = .ok (.goto 4, 3) := by decide +kernel
theorem dX7_messagesIn_17 : decode cX7_messagesIn 17 = .ok (.iconst 1, 1) := by decide +kernel
theorem dX7_messagesIn_18 : decode cX7_messagesIn 18 = .ok (.putfield 71, 3) := by decide +kernel
theorem dX7_messagesIn_21 : decode cX7_messagesIn 21 = .ok (.aload_n 0, 1) := by decide +kernel
theorem dX7_messagesIn_22 : decode cX7_messagesIn 22 = .ok (.getfield 71, 3) := by decide +kernel
theorem dX7_messagesIn_25 : decode cX7_messagesIn 25 = .ok (.ifCond .le 5, 3) := by decide +kernel
theorem dX7_messagesIn_28 : decode cX7_messagesIn 28 = .ok (.iconst 0, 1) := by decide +kernel
theorem dX7_messagesIn_29 : decode cX7_messagesIn 29 = .ok (.ireturn, 1) := by decide +kernel
theorem dX7_messagesIn_30 : decode cX7_messagesIn 30 = .ok (.aload_n 0, 1) := by decide +kernel
theorem dX7_messagesIn_31 : decode cX7_messagesIn 31 = .ok (.invokevirtual 337, 3) := by decide +kernel
theorem dX7_messagesIn_34 : decode cX7_messagesIn 34 = .ok (.aload_n 0, 1) := by decide +kernel
theorem dX7_messagesIn_35 : decode cX7_messagesIn 35 = .ok (.getfield 17, 3) := by decide +kernel
theorem dX7_messagesIn_38 : decode cX7_messagesIn 38 = .ok (.iconst 1, 1) := by decide +kernel
theorem dX7_messagesIn_39 : decode cX7_messagesIn 39 = .ok (.iaload, 1) := by decide +kernel
theorem dX7_messagesIn_40 : decode cX7_messagesIn 40 = .ok (.istore_n 2, 1) := by decide +kernel
theorem dX7_messagesIn_41 : decode cX7_messagesIn 41 = .ok (.iconst 0, 1) := by decide +kernel
theorem dX7_messagesIn_42 : decode cX7_messagesIn 42 = .ok (.istore_n 3, 1) := by decide +kernel
theorem dX7_messagesIn_43 : decode cX7_messagesIn 43 = .ok (.iload_n 3, 1) := by decide +kernel
theorem dX7_messagesIn_44 : decode cX7_messagesIn 44 = .ok (.iload_n 1, 1) := by decide +kernel
theorem dX7_messagesIn_45 : decode cX7_messagesIn 45 = .ok (.if_icmp .ge 13, 3) := by decide +kernel
theorem dX7_messagesIn_48 : decode cX7_messagesIn 48 = .ok (.aload_n 0, 1) := by decide +kernel
theorem dX7_messagesIn_49 : decode cX7_messagesIn 49 = .ok (.invokevirtual 334, 3) := by decide +kernel
theorem dX7_messagesIn_52 : decode cX7_messagesIn 52 = .ok (.iinc 3 1, 3) := by decide +kernel
theorem dX7_messagesIn_55 : decode cX7_messagesIn 55 = .ok (.goto (-12), 3) := by decide +kernel
theorem dX7_messagesIn_58 : decode cX7_messagesIn 58 = .ok (.aload_n 0, 1) := by decide +kernel
theorem dX7_messagesIn_59 : decode cX7_messagesIn 59 = .ok (.getfield 17, 3) := by decide +kernel
theorem dX7_messagesIn_62 : decode cX7_messagesIn 62 = .ok (.iconst 1, 1) := by decide +kernel
theorem dX7_messagesIn_63 : decode cX7_messagesIn 63 = .ok (.iaload, 1) := by decide +kernel
theorem dX7_messagesIn_64 : decode cX7_messagesIn 64 = .ok (.iload_n 2, 1) := by decide +kernel
theorem dX7_messagesIn_65 : decode cX7_messagesIn 65 = .ok (.isub, 1) := by decide +kernel
theorem dX7_messagesIn_66 : decode cX7_messagesIn 66 = .ok (.istore_n 3, 1) := by decide +kernel
theorem dX7_messagesIn_67 : decode cX7_messagesIn 67 = .ok (.aload_n 0, 1) := by decide +kernel
theorem dX7_messagesIn_68 : decode cX7_messagesIn 68 = .ok (.invokevirtual 343, 3) := by decide +kernel
theorem dX7_messagesIn_71 : decode cX7_messagesIn 71 = .ok (.iload_n 3, 1) := by decide +kernel
theorem dX7_messagesIn_72 : decode cX7_messagesIn 72 = .ok (.ireturn, 1) := by decide +kernel
theorem dX7_freshIn_0 : decode cX7_freshIn 0 = .ok (.aload_n 0, 1) := by decide +kernel
theorem dX7_freshIn_1 : decode cX7_freshIn 1 = .ok (.invokevirtual 337, 3) := by decide +kernel
theorem dX7_freshIn_4 : decode cX7_freshIn 4 = .ok (.iconst 0, 1) := by decide +kernel
theorem dX7_freshIn_5 : decode cX7_freshIn 5 = .ok (.istore_n 1, 1) := by decide +kernel
theorem dX7_freshIn_6 : decode cX7_freshIn 6 = .ok (.iload_n 1, 1) := by decide +kernel
theorem dX7_freshIn_7 : decode cX7_freshIn 7 = .ok (.bipush 100, 2) := by decide +kernel
theorem dX7_freshIn_9 : decode cX7_freshIn 9 = .ok (.if_icmp .gt 20, 3) := by decide +kernel
theorem dX7_freshIn_12 : decode cX7_freshIn 12 = .ok (.aload_n 0, 1) := by decide +kernel
theorem dX7_freshIn_13 : decode cX7_freshIn 13 = .ok (.invokevirtual 331, 3) := by decide +kernel
theorem dX7_freshIn_16 : decode cX7_freshIn 16 = .ok (.ifCond .le 13, 3) := by decide +kernel
theorem dX7_freshIn_19 : decode cX7_freshIn 19 = .ok (.aload_n 0, 1) := by decide +kernel
theorem dX7_freshIn_20 : decode cX7_freshIn 20 = .ok (.invokevirtual 334, 3) := by decide +kernel
theorem dX7_freshIn_23 : decode cX7_freshIn 23 = .ok (.iinc 1 1, 3) := by decide +kernel
theorem dX7_freshIn_26 : decode cX7_freshIn 26 = .ok (.goto (-20), 3) := by decide +kernel
theorem dX7_freshIn_29 : decode cX7_freshIn 29 = .ok (.aload_n 0, 1) := by decide +kernel
theorem dX7_freshIn_30 : decode cX7_freshIn 30 = .ok (.invokevirtual 343, 3) := by decide +kernel
theorem dX7_freshIn_33 : decode cX7_freshIn 33 = .ok (.aload_n 0, 1) := by decide +kernel
theorem dX7_freshIn_34 : decode cX7_freshIn 34 = .ok (.iload_n 1, 1) := by decide +kernel
theorem dX7_freshIn_35 : decode cX7_freshIn 35 = .ok (.bipush 100, 2) := by decide +kernel
theorem dX7_freshIn_37 : decode cX7_freshIn 37 = .ok (.if_icmp .le 7, 3) := by decide +kernel
theorem dX7_freshIn_40 : decode cX7_freshIn 40 = .ok (.iconst 1, 1) := by decide +kernel
theorem dX7_freshIn_41 : decode cX7_freshIn 41 = .ok (.goto 4, 3) := by decide +kernel
theorem dX7_freshIn_44 : decode cX7_freshIn 44 = .ok (.iconst 0, 1) := by decide +kernel
theorem dX7_freshIn_45 : decode cX7_freshIn 45 = .ok (.putfield 71, 3) := by decide +kernel
theorem dX7_freshIn_48 : decode cX7_freshIn 48 = .ok (.aload_n 0, 1) := by decide +kernel
theorem dX7_freshIn_49 : decode cX7_freshIn 49 = .ok (.getfield 71, 3) := by decide +kernel
theorem dX7_freshIn_52 : decode cX7_freshIn 52 = .ok (.ifCond .le 7, 3) := by decide +kernel
theorem dX7_freshIn_55 : decode cX7_freshIn 55 = .ok (.iconst 0, 1) := by decide +kernel
theorem dX7_freshIn_56 : decode cX7_freshIn 56 = .ok (.goto 4, 3) := by decide +kernel
theorem dX7_freshIn_59 : decode cX7_freshIn 59 = .ok (.iload_n 1, 1) := by decide +kernel
theorem dX7_freshIn_60 : decode cX7_freshIn 60 = .ok (.ireturn, 1) := by decide +kernel
theorem dX7_numberIf_0 : decode cX7_numberIf 0 = .ok (.aload_n 0, 1) := by decide +kernel
theorem dX7_numberIf_1 : decode cX7_numberIf 1 = .ok (.aload_n 0, 1) := by decide +kernel
theorem dX7_numberIf_2 : decode cX7_numberIf 2 = .ok (.iload_n 1, 1) := by decide +kernel
theorem dX7_numberIf_3 : decode cX7_numberIf 3 = .ok (.invokevirtual 300, 3) := by decide +kernel
theorem dX7_numberIf_6 : decode cX7_numberIf 6 = .ok (.ifCond .eq 19, 3) := by decide +kernel
theorem dX7_numberIf_9 : decode cX7_numberIf 9 = .ok (.aload_n 0, 1) := by decide +kernel
theorem dX7_numberIf_10 : decode cX7_numberIf 10 = .ok (.iload_n 2, 1) := by decide +kernel
theorem dX7_numberIf_11 : decode cX7_numberIf 11 = .ok (.invokevirtual 318, 3) := by decide +kernel
theorem dX7_numberIf_14 : decode cX7_numberIf 14 = .ok (.ifCond .eq 11, 3) := by decide +kernel
theorem dX7_numberIf_17 : decode cX7_numberIf 17 = .ok (.aload_n 0, 1) := by decide +kernel
theorem dX7_numberIf_18 : decode cX7_numberIf 18 = .ok (.iload_n 3, 1) := by decide +kernel
theorem dX7_numberIf_19 : decode cX7_numberIf 19 = .ok (.invokevirtual 305, 3) := by decide +kernel
theorem dX7_numberIf_22 : decode cX7_numberIf 22 = .ok (.ifCond .ne 7, 3) := by decide +kernel
theorem dX7_numberIf_25 : decode cX7_numberIf 25 = .ok (.iconst 1, 1) := by decide +kernel
theorem dX7_numberIf_26 : decode cX7_numberIf 26 = .ok (.goto 21, 3) := by decide +kernel
theorem dX7_numberIf_29 : decode cX7_numberIf 29 = .ok (.iload 4, 2) := by decide +kernel
theorem dX7_numberIf_31 : decode cX7_numberIf 31 = .ok (.i2l, 1) := by decide +kernel
theorem dX7_numberIf_32 : decode cX7_numberIf 32 = .ok (.lconst 1, 1) := by decide +kernel
theorem dX7_numberIf_33 : decode cX7_numberIf 33 = .ok (.ldc2_w 323, 3) := by decide +kernel
theorem dX7_numberIf_36 : decode cX7_numberIf 36 = .ok (.invokestatic 92, 3) := by decide +kernel
theorem dX7_numberIf_39 : decode cX7_numberIf 39 = .ok (.ifCond .eq 7, 3) := by decide +kernel
theorem dX7_numberIf_42 : decode cX7_numberIf 42 = .ok (.iconst 0, 1) := by decide +kernel
theorem dX7_numberIf_43 : decode cX7_numberIf 43 = .ok (.goto 4, 3) := by decide +kernel
theorem dX7_numberIf_46 : decode cX7_numberIf 46 = .ok (.iconst 2, 1) := by decide +kernel
theorem dX7_numberIf_47 : decode cX7_numberIf 47 = .ok (.putfield 71, 3) := by decide +kernel
theorem dX7_numberIf_50 : decode cX7_numberIf 50 = .ok (.aload_n 0, 1) := by decide +kernel
theorem dX7_numberIf_51 : decode cX7_numberIf 51 = .ok (.getfield 71, 3) := by decide +kernel
theorem dX7_numberIf_54 : decode cX7_numberIf 54 = .ok (.ifCond .le 5, 3) := by decide +kernel
theorem dX7_numberIf_57 : decode cX7_numberIf 57 = .ok (.iconst 0, 1) := by decide +kernel
theorem dX7_numberIf_58 : decode cX7_numberIf 58 = .ok (.ireturn, 1) := by decide +kernel
theorem dX7_numberIf_59 : decode cX7_numberIf 59 = .ok (.aload_n 0, 1) := by decide +kernel
theorem dX7_numberIf_60 : decode cX7_numberIf 60 = .ok (.getfield 17, 3) := by decide +kernel
theorem dX7_numberIf_63 : decode cX7_numberIf 63 = .ok (.iload_n 3, 1) := by decide +kernel
theorem dX7_numberIf_64 : decode cX7_numberIf 64 = .ok (.invokestatic 74, 3) := by decide +kernel
theorem dX7_numberIf_67 : decode cX7_numberIf 67 = .ok (.iconst 2, 1) := by decide +kernel
theorem dX7_numberIf_68 : decode cX7_numberIf 68 = .ok (.iadd, 1) := by decide +kernel
theorem dX7_numberIf_69 : decode cX7_numberIf 69 = .ok (.iaload, 1) := by decide +kernel
theorem dX7_numberIf_70 : decode cX7_numberIf 70 = .ok (.istore 5, 2) := by decide +kernel
theorem dX7_numberIf_72 : decode cX7_numberIf 72 = .ok (.aload_n 0, 1) := by decide +kernel
theorem dX7_numberIf_73 : decode cX7_numberIf 73 = .ok (.aload_n 0, 1) := by decide +kernel
theorem dX7_numberIf_74 : decode cX7_numberIf 74 = .ok (.getfield 17, 3) := by decide +kernel
theorem dX7_numberIf_77 : decode cX7_numberIf 77 = .ok (.iload_n 1, 1) := by decide +kernel
theorem dX7_numberIf_78 : decode cX7_numberIf 78 = .ok (.invokestatic 78, 3) := by decide +kernel
theorem dX7_numberIf_81 : decode cX7_numberIf 81 = .ok (.iconst 0, 1) := by decide +kernel
theorem dX7_numberIf_82 : decode cX7_numberIf 82 = .ok (.iadd, 1) := by decide +kernel
theorem dX7_numberIf_83 : decode cX7_numberIf 83 = .ok (.iaload, 1) := by decide +kernel
theorem dX7_numberIf_84 : decode cX7_numberIf 84 = .ok (.ifCond .eq 19, 3) := by decide +kernel
theorem dX7_numberIf_87 : decode cX7_numberIf 87 = .ok (.aload_n 0, 1) := by decide +kernel
theorem dX7_numberIf_88 : decode cX7_numberIf 88 = .ok (.getfield 17, 3) := by decide +kernel
theorem dX7_numberIf_91 : decode cX7_numberIf 91 = .ok (.iload_n 1, 1) := by decide +kernel
theorem dX7_numberIf_92 : decode cX7_numberIf 92 = .ok (.iload_n 2, 1) := by decide +kernel
theorem dX7_numberIf_93 : decode cX7_numberIf 93 = .ok (.iload 5, 2) := by decide +kernel
theorem dX7_numberIf_95 : decode cX7_numberIf 95 = .ok (.iconst 0, 1) := by decide +kernel
theorem dX7_numberIf_96 : decode cX7_numberIf 96 = .ok (.iconst (-1), 1) := by decide +kernel
theorem dX7_numberIf_97 : decode cX7_numberIf 97 = .ok (.invokestatic 168, 3) := by decide +kernel
theorem dX7_numberIf_100 : decode cX7_numberIf 100 = .ok (.ifCond .eq 7, 3) := by decide +kernel
theorem dX7_numberIf_103 : decode cX7_numberIf 103 = .ok (.iconst 3, 1) := by decide +kernel
theorem dX7_numberIf_104 : decode cX7_numberIf 104 = .ok (.goto 4, 3) := by decide +kernel
theorem dX7_numberIf_108 : decode cX7_numberIf 108 = .ok (.putfield 71, 3) := by decide +kernel
theorem dX7_numberIf_111 : decode cX7_numberIf 111 = .ok (.aload_n 0, 1) := by decide +kernel
theorem dX7_numberIf_112 : decode cX7_numberIf 112 = .ok (.getfield 71, 3) := by decide +kernel
theorem dX7_numberIf_115 : decode cX7_numberIf 115 = .ok (.ifCond .le 5, 3) := by decide +kernel
theorem dX7_numberIf_118 : decode cX7_numberIf 118 = .ok (.iconst 0, 1) := by decide +kernel
theorem dX7_numberIf_119 : decode cX7_numberIf 119 = .ok (.ireturn, 1) := by decide +kernel
theorem dX7_puts_0 : decode cX7_puts 0 = .ok (.aload_n 0, 1) := by decide +kernel
theorem dX7_puts_1 : decode cX7_puts 1 = .ok (.getfield 51, 3) := by decide +kernel
theorem dX7_puts_4 : decode cX7_puts 4 = .ok (.aload_n 0, 1) := by decide +kernel
theorem dX7_puts_5 : decode cX7_puts 5 = .ok (.getfield 348, 3) := by decide +kernel
theorem dX7_puts_8 : decode cX7_puts 8 = .ok (.iload_n 1, 1) := by decide +kernel
theorem dX7_puts_9 : decode cX7_puts 9 = .ok (.iastore, 1) := by decide +kernel
theorem dX7_puts_10 : decode cX7_puts 10 = .ok (.aload_n 0, 1) := by decide +kernel
theorem dX7_puts_11 : decode cX7_puts 11 = .ok (.dup, 1) := by decide +kernel
theorem dX7_puts_12 : decode cX7_puts 12 = .ok (.getfield 348, 3) := by decide +kernel
theorem dX7_puts_15 : decode cX7_puts 15 = .ok (.iconst 1, 1) := by decide +kernel
theorem dX7_puts_16 : decode cX7_puts 16 = .ok (.iadd, 1) := by decide +kernel
theorem dX7_puts_17 : decode cX7_puts 17 = .ok (.putfield 348, 3) := by decide +kernel
theorem dX7_puts_20 : decode cX7_puts 20 = .ok (.return_, 1) := by decide +kernel
theorem dX7_putsName_0 : decode cX7_putsName 0 = .ok (.iconst 0, 1) := by decide +kernel
theorem dX7_putsName_1 : decode cX7_putsName 1 = .ok (.istore_n 2, 1) := by decide +kernel
theorem dX7_putsName_2 : decode cX7_putsName 2 = .ok (.iload_n 1, 1) := by decide +kernel
theorem dX7_putsName_3 : decode cX7_putsName 3 = .ok (.iload_n 2, 1) := by decide +kernel
theorem dX7_putsName_4 : decode cX7_putsName 4 = .ok (.invokestatic 310, 3) := by decide +kernel
theorem dX7_putsName_7 : decode cX7_putsName 7 = .ok (.iconst (-1), 1) := by decide +kernel
theorem dX7_putsName_8 : decode cX7_putsName 8 = .ok (.if_icmp .eq 18, 3) := by decide +kernel
theorem dX7_putsName_11 : decode cX7_putsName 11 = .ok (.aload_n 0, 1) := by decide +kernel
theorem dX7_putsName_12 : decode cX7_putsName 12 = .ok (.iload_n 1, 1) := by decide +kernel
theorem dX7_putsName_13 : decode cX7_putsName 13 = .ok (.iload_n 2, 1) := by decide +kernel
theorem dX7_putsName_14 : decode cX7_putsName 14 = .ok (.invokestatic 310, 3) := by decide +kernel
theorem dX7_putsName_17 : decode cX7_putsName 17 = .ok (.invokevirtual 351, 3) := by decide +kernel
theorem dX7_putsName_20 : decode cX7_putsName 20 = .ok (.iinc 2 1, 3) := by decide +kernel
theorem dX7_putsName_23 : decode cX7_putsName 23 = .ok (.goto (-21), 3) := by decide +kernel
theorem dX7_putsName_26 : decode cX7_putsName 26 = .ok (.return_, 1) := by decide +kernel
theorem dX7_write_0 : decode cX7_write 0 = .ok (.aload_n 0, 1) := by decide +kernel
theorem dX7_write_1 : decode cX7_write 1 = .ok (.iconst 0, 1) := by decide +kernel
theorem dX7_write_2 : decode cX7_write 2 = .ok (.putfield 71, 3) := by decide +kernel
theorem dX7_write_5 : decode cX7_write 5 = .ok (.aload_n 0, 1) := by decide +kernel
theorem dX7_write_6 : decode cX7_write 6 = .ok (.iconst 0, 1) := by decide +kernel
theorem dX7_write_7 : decode cX7_write 7 = .ok (.putfield 348, 3) := by decide +kernel
theorem dX7_write_10 : decode cX7_write 10 = .ok (.iconst 0, 1) := by decide +kernel
theorem dX7_write_11 : decode cX7_write 11 = .ok (.istore_n 1, 1) := by decide +kernel
theorem dX7_write_12 : decode cX7_write 12 = .ok (.iload_n 1, 1) := by decide +kernel
theorem dX7_write_13 : decode cX7_write 13 = .ok (.aload_n 0, 1) := by decide +kernel
theorem dX7_write_14 : decode cX7_write 14 = .ok (.getfield 17, 3) := by decide +kernel
theorem dX7_write_17 : decode cX7_write 17 = .ok (.bipush 8, 2) := by decide +kernel
theorem dX7_write_19 : decode cX7_write 19 = .ok (.iaload, 1) := by decide +kernel
theorem dX7_write_20 : decode cX7_write 20 = .ok (.if_icmp .ge 149, 3) := by decide +kernel
theorem dX7_write_23 : decode cX7_write 23 = .ok (.iload_n 1, 1) := by decide +kernel
theorem dX7_write_24 : decode cX7_write 24 = .ok (.invokestatic 74, 3) := by decide +kernel
theorem dX7_write_27 : decode cX7_write 27 = .ok (.istore_n 2, 1) := by decide +kernel
theorem dX7_write_28 : decode cX7_write 28 = .ok (.aload_n 0, 1) := by decide +kernel
theorem dX7_write_29 : decode cX7_write 29 = .ok (.aload_n 0, 1) := by decide +kernel
theorem dX7_write_30 : decode cX7_write 30 = .ok (.getfield 17, 3) := by decide +kernel
theorem dX7_write_33 : decode cX7_write 33 = .ok (.iload_n 2, 1) := by decide +kernel
theorem dX7_write_34 : decode cX7_write 34 = .ok (.iconst 2, 1) := by decide +kernel
theorem dX7_write_35 : decode cX7_write 35 = .ok (.iadd, 1) := by decide +kernel
theorem dX7_write_36 : decode cX7_write 36 = .ok (.iaload, 1) := by decide +kernel
theorem dX7_write_37 : decode cX7_write 37 = .ok (.invokevirtual 354, 3) := by decide +kernel
theorem dX7_write_40 : decode cX7_write 40 = .ok (.aload_n 0, 1) := by decide +kernel
theorem dX7_write_41 : decode cX7_write 41 = .ok (.getfield 17, 3) := by decide +kernel
theorem dX7_write_44 : decode cX7_write 44 = .ok (.iload_n 2, 1) := by decide +kernel
theorem dX7_write_45 : decode cX7_write 45 = .ok (.iconst 3, 1) := by decide +kernel
theorem dX7_write_46 : decode cX7_write 46 = .ok (.iadd, 1) := by decide +kernel
theorem dX7_write_47 : decode cX7_write 47 = .ok (.iaload, 1) := by decide +kernel
theorem dX7_write_48 : decode cX7_write 48 = .ok (.ifCond .eq 21, 3) := by decide +kernel
theorem dX7_write_51 : decode cX7_write 51 = .ok (.aload_n 0, 1) := by decide +kernel
theorem dX7_write_52 : decode cX7_write 52 = .ok (.bipush 45, 2) := by decide +kernel
theorem dX7_write_54 : decode cX7_write 54 = .ok (.invokevirtual 351, 3) := by decide +kernel
theorem dX7_write_57 : decode cX7_write 57 = .ok (.aload_n 0, 1) := by decide +kernel
theorem dX7_write_58 : decode cX7_write 58 = .ok (.aload_n 0, 1) := by decide +kernel
theorem dX7_write_59 : decode cX7_write 59 = .ok (.getfield 17, 3) := by decide +kernel
theorem dX7_write_62 : decode cX7_write 62 = .ok (.iload_n 2, 1) := by decide +kernel
theorem dX7_write_63 : decode cX7_write 63 = .ok (.iconst 3, 1) := by decide +kernel
theorem dX7_write_64 : decode cX7_write 64 = .ok (.iadd, 1) := by decide +kernel
theorem dX7_write_65 : decode cX7_write 65 = .ok (.iaload, 1) := by decide +kernel
theorem dX7_write_66 : decode cX7_write 66 = .ok (.invokevirtual 357, 3) := by decide +kernel
theorem dX7_write_69 : decode cX7_write 69 = .ok (.aload_n 0, 1) := by decide +kernel
theorem dX7_write_70 : decode cX7_write 70 = .ok (.bipush 46, 2) := by decide +kernel
theorem dX7_write_72 : decode cX7_write 72 = .ok (.invokevirtual 351, 3) := by decide +kernel
theorem dX7_write_75 : decode cX7_write 75 = .ok (.aload_n 0, 1) := by decide +kernel
theorem dX7_write_76 : decode cX7_write 76 = .ok (.aload_n 0, 1) := by decide +kernel
theorem dX7_write_77 : decode cX7_write 77 = .ok (.getfield 13, 3) := by decide +kernel
theorem dX7_write_80 : decode cX7_write 80 = .ok (.aload_n 0, 1) := by decide +kernel
theorem dX7_write_81 : decode cX7_write 81 = .ok (.getfield 17, 3) := by decide +kernel
theorem dX7_write_84 : decode cX7_write 84 = .ok (.iload_n 2, 1) := by decide +kernel
theorem dX7_write_85 : decode cX7_write 85 = .ok (.iconst 1, 1) := by decide +kernel
theorem dX7_write_86 : decode cX7_write 86 = .ok (.iadd, 1) := by decide +kernel
theorem dX7_write_87 : decode cX7_write 87 = .ok (.iaload, 1) := by decide +kernel
theorem dX7_write_88 : decode cX7_write 88 = .ok (.iaload, 1) := by decide +kernel
theorem dX7_write_89 : decode cX7_write 89 = .ok (.invokevirtual 354, 3) := by decide +kernel
theorem dX7_write_92 : decode cX7_write 92 = .ok (.aload_n 0, 1) := by decide +kernel
theorem dX7_write_93 : decode cX7_write 93 = .ok (.bipush 32, 2) := by decide +kernel
theorem dX7_write_95 : decode cX7_write 95 = .ok (.invokevirtual 351, 3) := by decide +kernel
theorem dX7_write_98 : decode cX7_write 98 = .ok (.aload_n 0, 1) := by decide +kernel
theorem dX7_write_99 : decode cX7_write 99 = .ok (.aload_n 0, 1) := by decide +kernel
theorem dX7_write_100 : decode cX7_write 100 = .ok (.getfield 17, 3) := by decide +kernel
theorem dX7_write_103 : decode cX7_write 103 = .ok (.iload_n 2, 1) := by decide +kernel
theorem dX7_write_104 : decode cX7_write 104 = .ok (.bipush 6, 2) := by decide +kernel
theorem dX7_write_106 : decode cX7_write 106 = .ok (.iadd, 1) := by decide +kernel
theorem dX7_write_107 : decode cX7_write 107 = .ok (.iaload, 1) := by decide +kernel
theorem dX7_write_108 : decode cX7_write 108 = .ok (.ifCond .ne 8, 3) := by decide +kernel
theorem dX7_write_111 : decode cX7_write 111 = .ok (.bipush 112, 2) := by decide +kernel
theorem dX7_write_113 : decode cX7_write 113 = .ok (.goto 41, 3) := by decide +kernel
theorem dX7_write_154 : decode cX7_write 154 = .ok (.invokevirtual 351, 3) := by decide +kernel
theorem dX7_write_157 : decode cX7_write 157 = .ok (.aload_n 0, 1) := by decide +kernel
theorem dX7_write_158 : decode cX7_write 158 = .ok (.bipush 10, 2) := by decide +kernel
theorem dX7_write_160 : decode cX7_write 160 = .ok (.invokevirtual 351, 3) := by decide +kernel
theorem dX7_write_163 : decode cX7_write 163 = .ok (.iinc 1 1, 3) := by decide +kernel
theorem dX7_write_166 : decode cX7_write 166 = .ok (.goto (-154), 3) := by decide +kernel
theorem dX7_write_169 : decode cX7_write 169 = .ok (.aload_n 0, 1) := by decide +kernel
theorem dX7_write_170 : decode cX7_write 170 = .ok (.getfield 348, 3) := by decide +kernel
theorem dX7_write_173 : decode cX7_write 173 = .ok (.ireturn, 1) := by decide +kernel
theorem dX7_outputByte_0 : decode cX7_outputByte 0 = .ok (.aload_n 0, 1) := by decide +kernel
theorem dX7_outputByte_1 : decode cX7_outputByte 1 = .ok (.iload_n 1, 1) := by decide +kernel
theorem dX7_outputByte_2 : decode cX7_outputByte 2 = .ok (.i2l, 1) := by decide +kernel
theorem dX7_outputByte_3 : decode cX7_outputByte 3 = .ok (.lconst 0, 1) := by decide +kernel
theorem dX7_outputByte_4 : decode cX7_outputByte 4 = .ok (.aload_n 0, 1) := by decide +kernel
theorem dX7_outputByte_5 : decode cX7_outputByte 5 = .ok (.getfield 348, 3) := by decide +kernel
theorem dX7_outputByte_8 : decode cX7_outputByte 8 = .ok (.iconst 1, 1) := by decide +kernel
theorem dX7_outputByte_9 : decode cX7_outputByte 9 = .ok (.isub, 1) := by decide +kernel
theorem dX7_outputByte_10 : decode cX7_outputByte 10 = .ok (.i2l, 1) := by decide +kernel
theorem dX7_outputByte_11 : decode cX7_outputByte 11 = .ok (.invokestatic 92, 3) := by decide +kernel
theorem dX7_outputByte_14 : decode cX7_outputByte 14 = .ok (.ifCond .eq 7, 3) := by decide +kernel
theorem dX7_outputByte_17 : decode cX7_outputByte 17 = .ok (.iconst 0, 1) := by decide +kernel
theorem dX7_outputByte_18 : decode cX7_outputByte 18 = .ok (.goto 4, 3) := by decide +kernel
theorem dX7_outputByte_21 : decode cX7_outputByte 21 = .ok (.iconst 1, 1) := by decide +kernel
theorem dX7_outputByte_22 : decode cX7_outputByte 22 = .ok (.putfield 71, 3) := by decide +kernel
theorem dX7_outputByte_25 : decode cX7_outputByte 25 = .ok (.aload_n 0, 1) := by decide +kernel
theorem dX7_outputByte_26 : decode cX7_outputByte 26 = .ok (.getfield 71, 3) := by decide +kernel
theorem dX7_outputByte_29 : decode cX7_outputByte 29 = .ok (.ifCond .le 7, 3) := by decide +kernel
theorem dX7_outputByte_32 : decode cX7_outputByte 32 = .ok (.iconst 0, 1) := by decide +kernel
theorem dX7_outputByte_33 : decode cX7_outputByte 33 = .ok (.goto 9, 3) := by decide +kernel
theorem dX7_outputByte_42 : decode cX7_outputByte 42 = .ok (.ireturn, 1) := by decide +kernel
theorem dX7_keeps_0 : decode cX7_keeps 0 = .ok (.aload_n 0, 1) := by decide +kernel
theorem dX7_keeps_1 : decode cX7_keeps 1 = .ok (.getfield 205, 3) := by decide +kernel
theorem dX7_keeps_4 : decode cX7_keeps 4 = .ok (.bipush 8, 2) := by decide +kernel
theorem dX7_keeps_6 : decode cX7_keeps 6 = .ok (.if_icmp .ne 26, 3) := by decide +kernel
theorem dX7_keeps_9 : decode cX7_keeps 9 = .ok (.aload_n 0, 1) := by decide +kernel
theorem dX7_keeps_10 : decode cX7_keeps 10 = .ok (.aload_n 0, 1) := by decide +kernel
theorem dX7_keeps_11 : decode cX7_keeps 11 = .ok (.getfield 360, 3) := by decide +kernel
theorem dX7_keeps_14 : decode cX7_keeps 14 = .ok (.iconst 1, 1) := by decide +kernel
theorem dX7_keeps_15 : decode cX7_keeps 15 = .ok (.iadd, 1) := by decide +kernel
theorem dX7_keeps_16 : decode cX7_keeps 16 = .ok (.bipush 8, 2) := by decide +kernel
theorem dX7_keeps_18 : decode cX7_keeps 18 = .ok (.irem, 1) := by decide +kernel
theorem dX7_keeps_19 : decode cX7_keeps 19 = .ok (.putfield 360, 3) := by decide +kernel
theorem dX7_keeps_22 : decode cX7_keeps 22 = .ok (.aload_n 0, 1) := by decide +kernel
theorem dX7_keeps_23 : decode cX7_keeps 23 = .ok (.dup, 1) := by decide +kernel
theorem dX7_keeps_24 : decode cX7_keeps 24 = .ok (.getfield 205, 3) := by decide +kernel
theorem dX7_keeps_27 : decode cX7_keeps 27 = .ok (.iconst 1, 1) := by decide +kernel
theorem dX7_keeps_28 : decode cX7_keeps 28 = .ok (.isub, 1) := by decide +kernel
theorem dX7_keeps_29 : decode cX7_keeps 29 = .ok (.putfield 205, 3) := by decide +kernel
theorem dX7_keeps_32 : decode cX7_keeps 32 = .ok (.aload_n 0, 1) := by decide +kernel
theorem dX7_keeps_33 : decode cX7_keeps 33 = .ok (.getfield 17, 3) := by decide +kernel
theorem dX7_keeps_36 : decode cX7_keeps 36 = .ok (.iconst 0, 1) := by decide +kernel
theorem dX7_keeps_37 : decode cX7_keeps 37 = .ok (.aload_n 0, 1) := by decide +kernel
theorem dX7_keeps_38 : decode cX7_keeps 38 = .ok (.getfield 21, 3) := by decide +kernel
theorem dX7_keeps_41 : decode cX7_keeps 41 = .ok (.ldc 16, 2) := by decide +kernel
theorem dX7_keeps_43 : decode cX7_keeps 43 = .ok (.aload_n 0, 1) := by decide +kernel
theorem dX7_keeps_44 : decode cX7_keeps 44 = .ok (.getfield 360, 3) := by decide +kernel
theorem dX7_keeps_47 : decode cX7_keeps 47 = .ok (.aload_n 0, 1) := by decide +kernel
theorem dX7_keeps_48 : decode cX7_keeps 48 = .ok (.getfield 205, 3) := by decide +kernel
theorem dX7_keeps_51 : decode cX7_keeps 51 = .ok (.iadd, 1) := by decide +kernel
theorem dX7_keeps_52 : decode cX7_keeps 52 = .ok (.bipush 8, 2) := by decide +kernel
theorem dX7_keeps_54 : decode cX7_keeps 54 = .ok (.irem, 1) := by decide +kernel
theorem dX7_keeps_55 : decode cX7_keeps 55 = .ok (.imul, 1) := by decide +kernel
theorem dX7_keeps_56 : decode cX7_keeps 56 = .ok (.invokestatic 288, 3) := by decide +kernel
theorem dX7_keeps_59 : decode cX7_keeps 59 = .ok (.aload_n 0, 1) := by decide +kernel
theorem dX7_keeps_60 : decode cX7_keeps 60 = .ok (.dup, 1) := by decide +kernel
theorem dX7_keeps_61 : decode cX7_keeps 61 = .ok (.getfield 205, 3) := by decide +kernel
theorem dX7_keeps_64 : decode cX7_keeps 64 = .ok (.iconst 1, 1) := by decide +kernel
theorem dX7_keeps_65 : decode cX7_keeps 65 = .ok (.iadd, 1) := by decide +kernel
theorem dX7_keeps_66 : decode cX7_keeps 66 = .ok (.putfield 205, 3) := by decide +kernel
theorem dX7_keeps_69 : decode cX7_keeps 69 = .ok (.return_, 1) := by decide +kernel
theorem dX7_pass_0 : decode cX7_pass 0 = .ok (.aload_n 0, 1) := by decide +kernel
theorem dX7_pass_1 : decode cX7_pass 1 = .ok (.iload_n 1, 1) := by decide +kernel
theorem dX7_pass_2 : decode cX7_pass 2 = .ok (.i2l, 1) := by decide +kernel
theorem dX7_pass_3 : decode cX7_pass 3 = .ok (.lconst 1, 1) := by decide +kernel
theorem dX7_pass_4 : decode cX7_pass 4 = .ok (.ldc2_w 346, 3) := by decide +kernel
theorem dX7_pass_7 : decode cX7_pass 7 = .ok (.invokestatic 92, 3) := by decide +kernel
theorem dX7_pass_10 : decode cX7_pass 10 = .ok (.ifCond .ne 7, 3) := by decide +kernel
theorem dX7_pass_13 : decode cX7_pass 13 = .ok (.iconst 1, 1) := by decide +kernel
theorem dX7_pass_14 : decode cX7_pass 14 = .ok (.goto 22, 3) := by decide +kernel
theorem dX7_pass_17 : decode cX7_pass 17 = .ok (.aload_n 0, 1) := by decide +kernel
theorem dX7_pass_18 : decode cX7_pass 18 = .ok (.getfield 17, 3) := by decide +kernel
theorem dX7_pass_21 : decode cX7_pass 21 = .ok (.iconst 0, 1) := by decide +kernel
theorem dX7_pass_22 : decode cX7_pass 22 = .ok (.iaload, 1) := by decide +kernel
theorem dX7_pass_23 : decode cX7_pass 23 = .ok (.iload_n 1, 1) := by decide +kernel
theorem dX7_pass_24 : decode cX7_pass 24 = .ok (.iadd, 1) := by decide +kernel
theorem dX7_pass_25 : decode cX7_pass 25 = .ok (.sipush 5000, 3) := by decide +kernel
theorem dX7_pass_28 : decode cX7_pass 28 = .ok (.if_icmp .le 7, 3) := by decide +kernel
theorem dX7_pass_31 : decode cX7_pass 31 = .ok (.iconst 2, 1) := by decide +kernel
theorem dX7_pass_32 : decode cX7_pass 32 = .ok (.goto 4, 3) := by decide +kernel
theorem dX7_pass_35 : decode cX7_pass 35 = .ok (.iconst 0, 1) := by decide +kernel
theorem dX7_pass_36 : decode cX7_pass 36 = .ok (.putfield 71, 3) := by decide +kernel
theorem dX7_pass_39 : decode cX7_pass 39 = .ok (.aload_n 0, 1) := by decide +kernel
theorem dX7_pass_40 : decode cX7_pass 40 = .ok (.getfield 71, 3) := by decide +kernel
theorem dX7_pass_43 : decode cX7_pass 43 = .ok (.ifCond .le 5, 3) := by decide +kernel
theorem dX7_pass_46 : decode cX7_pass 46 = .ok (.iconst 0, 1) := by decide +kernel
theorem dX7_pass_47 : decode cX7_pass 47 = .ok (.ireturn, 1) := by decide +kernel
theorem dX7_pass_48 : decode cX7_pass 48 = .ok (.aload_n 0, 1) := by decide +kernel
theorem dX7_pass_49 : decode cX7_pass 49 = .ok (.invokevirtual 363, 3) := by decide +kernel
theorem dX7_pass_52 : decode cX7_pass 52 = .ok (.aload_n 0, 1) := by decide +kernel
theorem dX7_pass_53 : decode cX7_pass 53 = .ok (.getfield 17, 3) := by decide +kernel
theorem dX7_pass_56 : decode cX7_pass 56 = .ok (.iconst 1, 1) := by decide +kernel
theorem dX7_pass_57 : decode cX7_pass 57 = .ok (.iaload, 1) := by decide +kernel
theorem dX7_pass_58 : decode cX7_pass 58 = .ok (.istore_n 2, 1) := by decide +kernel
theorem dX7_pass_59 : decode cX7_pass 59 = .ok (.iconst 0, 1) := by decide +kernel
theorem dX7_pass_60 : decode cX7_pass 60 = .ok (.istore_n 3, 1) := by decide +kernel
theorem dX7_pass_61 : decode cX7_pass 61 = .ok (.iload_n 3, 1) := by decide +kernel
theorem dX7_pass_62 : decode cX7_pass 62 = .ok (.iload_n 1, 1) := by decide +kernel
theorem dX7_pass_63 : decode cX7_pass 63 = .ok (.if_icmp .ge 13, 3) := by decide +kernel
theorem dX7_pass_66 : decode cX7_pass 66 = .ok (.aload_n 0, 1) := by decide +kernel
theorem dX7_pass_67 : decode cX7_pass 67 = .ok (.invokevirtual 334, 3) := by decide +kernel
theorem dX7_pass_70 : decode cX7_pass 70 = .ok (.iinc 3 1, 3) := by decide +kernel
theorem dX7_pass_73 : decode cX7_pass 73 = .ok (.goto (-12), 3) := by decide +kernel
theorem dX7_pass_76 : decode cX7_pass 76 = .ok (.aload_n 0, 1) := by decide +kernel
theorem dX7_pass_77 : decode cX7_pass 77 = .ok (.getfield 17, 3) := by decide +kernel
theorem dX7_pass_80 : decode cX7_pass 80 = .ok (.iconst 1, 1) := by decide +kernel
theorem dX7_pass_81 : decode cX7_pass 81 = .ok (.iaload, 1) := by decide +kernel
theorem dX7_pass_82 : decode cX7_pass 82 = .ok (.iload_n 2, 1) := by decide +kernel
theorem dX7_pass_83 : decode cX7_pass 83 = .ok (.isub, 1) := by decide +kernel
theorem dX7_pass_84 : decode cX7_pass 84 = .ok (.ireturn, 1) := by decide +kernel
theorem dX7_add_0 : decode cX7_add 0 = .ok (.aload_n 0, 1) := by decide +kernel
theorem dX7_add_1 : decode cX7_add 1 = .ok (.invokevirtual 211, 3) := by decide +kernel
theorem dX7_add_4 : decode cX7_add 4 = .ok (.istore 5, 2) := by decide +kernel
theorem dX7_add_6 : decode cX7_add 6 = .ok (.aload_n 0, 1) := by decide +kernel
theorem dX7_add_7 : decode cX7_add 7 = .ok (.aload_n 0, 1) := by decide +kernel
theorem dX7_add_8 : decode cX7_add 8 = .ok (.iload_n 1, 1) := by decide +kernel
theorem dX7_add_9 : decode cX7_add 9 = .ok (.invokevirtual 300, 3) := by decide +kernel
theorem dX7_add_12 : decode cX7_add 12 = .ok (.ifCond .eq 11, 3) := by decide +kernel
theorem dX7_add_15 : decode cX7_add 15 = .ok (.aload_n 0, 1) := by decide +kernel
theorem dX7_add_16 : decode cX7_add 16 = .ok (.iload_n 2, 1) := by decide +kernel
theorem dX7_add_17 : decode cX7_add 17 = .ok (.invokevirtual 318, 3) := by decide +kernel
theorem dX7_add_20 : decode cX7_add 20 = .ok (.ifCond .ne 7, 3) := by decide +kernel
theorem dX7_add_23 : decode cX7_add 23 = .ok (.iconst 1, 1) := by decide +kernel
theorem dX7_add_24 : decode cX7_add 24 = .ok (.goto 72, 3) := by decide +kernel
theorem dX7_add_27 : decode cX7_add 27 = .ok (.iload_n 3, 1) := by decide +kernel
theorem dX7_add_28 : decode cX7_add 28 = .ok (.i2l, 1) := by decide +kernel
theorem dX7_add_29 : decode cX7_add 29 = .ok (.lconst 1, 1) := by decide +kernel
theorem dX7_add_30 : decode cX7_add 30 = .ok (.ldc2_w 323, 3) := by decide +kernel
theorem dX7_add_33 : decode cX7_add 33 = .ok (.invokestatic 92, 3) := by decide +kernel
theorem dX7_add_36 : decode cX7_add 36 = .ok (.ifCond .eq 23, 3) := by decide +kernel
theorem dX7_add_39 : decode cX7_add 39 = .ok (.iload 4, 2) := by decide +kernel
theorem dX7_add_41 : decode cX7_add 41 = .ok (.i2l, 1) := by decide +kernel
theorem dX7_add_42 : decode cX7_add 42 = .ok (.ldc2_w 366, 3) := by decide +kernel
theorem dX7_add_45 : decode cX7_add 45 = .ok (.ldc2_w 368, 3) := by decide +kernel
theorem dX7_add_48 : decode cX7_add 48 = .ok (.invokestatic 92, 3) := by decide +kernel
theorem dX7_add_51 : decode cX7_add 51 = .ok (.ifCond .eq 8, 3) := by decide +kernel
theorem dX7_add_54 : decode cX7_add 54 = .ok (.iload 5, 2) := by decide +kernel
theorem dX7_add_56 : decode cX7_add 56 = .ok (.ifCond .ne 7, 3) := by decide +kernel
theorem dX7_add_59 : decode cX7_add 59 = .ok (.iconst 2, 1) := by decide +kernel
theorem dX7_add_60 : decode cX7_add 60 = .ok (.goto 36, 3) := by decide +kernel
theorem dX7_add_96 : decode cX7_add 96 = .ok (.putfield 71, 3) := by decide +kernel
theorem dX7_add_99 : decode cX7_add 99 = .ok (.aload_n 0, 1) := by decide +kernel
theorem dX7_add_100 : decode cX7_add 100 = .ok (.getfield 71, 3) := by decide +kernel
theorem dX7_add_103 : decode cX7_add 103 = .ok (.ifCond .le 5, 3) := by decide +kernel
theorem dX7_add_106 : decode cX7_add 106 = .ok (.iconst 0, 1) := by decide +kernel
theorem dX7_add_107 : decode cX7_add 107 = .ok (.ireturn, 1) := by decide +kernel
theorem dX7_withdraw_0 : decode cX7_withdraw 0 = .ok (.aload_n 0, 1) := by decide +kernel
theorem dX7_withdraw_1 : decode cX7_withdraw 1 = .ok (.aload_n 0, 1) := by decide +kernel
theorem dX7_withdraw_2 : decode cX7_withdraw 2 = .ok (.iload_n 1, 1) := by decide +kernel
theorem dX7_withdraw_3 : decode cX7_withdraw 3 = .ok (.invokevirtual 305, 3) := by decide +kernel
theorem dX7_withdraw_6 : decode cX7_withdraw 6 = .ok (.ifCond .ne 7, 3) := by decide +kernel
theorem dX7_withdraw_9 : decode cX7_withdraw 9 = .ok (.iconst 1, 1) := by decide +kernel
theorem dX7_withdraw_10 : decode cX7_withdraw 10 = .ok (.goto 24, 3) := by decide +kernel
theorem dX7_withdraw_13 : decode cX7_withdraw 13 = .ok (.aload_n 0, 1) := by decide +kernel
theorem dX7_withdraw_14 : decode cX7_withdraw 14 = .ok (.getfield 17, 3) := by decide +kernel
theorem dX7_withdraw_17 : decode cX7_withdraw 17 = .ok (.iload_n 1, 1) := by decide +kernel
theorem dX7_withdraw_18 : decode cX7_withdraw 18 = .ok (.invokestatic 74, 3) := by decide +kernel
theorem dX7_withdraw_21 : decode cX7_withdraw 21 = .ok (.bipush 6, 2) := by decide +kernel
theorem dX7_withdraw_23 : decode cX7_withdraw 23 = .ok (.iadd, 1) := by decide +kernel
theorem dX7_withdraw_24 : decode cX7_withdraw 24 = .ok (.iaload, 1) := by decide +kernel
theorem dX7_withdraw_25 : decode cX7_withdraw 25 = .ok (.iconst 3, 1) := by decide +kernel
theorem dX7_withdraw_26 : decode cX7_withdraw 26 = .ok (.if_icmp .ne 7, 3) := by decide +kernel
theorem dX7_withdraw_29 : decode cX7_withdraw 29 = .ok (.iconst 2, 1) := by decide +kernel
theorem dX7_withdraw_30 : decode cX7_withdraw 30 = .ok (.goto 4, 3) := by decide +kernel
theorem dX7_withdraw_33 : decode cX7_withdraw 33 = .ok (.iconst 0, 1) := by decide +kernel
theorem dX7_withdraw_34 : decode cX7_withdraw 34 = .ok (.putfield 71, 3) := by decide +kernel
theorem dX7_withdraw_37 : decode cX7_withdraw 37 = .ok (.aload_n 0, 1) := by decide +kernel
theorem dX7_withdraw_38 : decode cX7_withdraw 38 = .ok (.getfield 71, 3) := by decide +kernel
theorem dX7_withdraw_41 : decode cX7_withdraw 41 = .ok (.ifCond .le 5, 3) := by decide +kernel
theorem dX7_withdraw_44 : decode cX7_withdraw 44 = .ok (.iconst 0, 1) := by decide +kernel
theorem dX7_withdraw_45 : decode cX7_withdraw 45 = .ok (.ireturn, 1) := by decide +kernel
theorem dX7_withdraw_46 : decode cX7_withdraw 46 = .ok (.aload_n 0, 1) := by decide +kernel
theorem dX7_withdraw_47 : decode cX7_withdraw 47 = .ok (.invokevirtual 363, 3) := by decide +kernel
theorem dX7_withdraw_50 : decode cX7_withdraw 50 = .ok (.iload_n 1, 1) := by decide +kernel
theorem dX7_withdraw_51 : decode cX7_withdraw 51 = .ok (.invokestatic 74, 3) := by decide +kernel
theorem dX7_withdraw_54 : decode cX7_withdraw 54 = .ok (.istore_n 2, 1) := by decide +kernel
theorem dX7_withdraw_55 : decode cX7_withdraw 55 = .ok (.aload_n 0, 1) := by decide +kernel
theorem dX7_withdraw_56 : decode cX7_withdraw 56 = .ok (.getfield 17, 3) := by decide +kernel
theorem dX7_withdraw_59 : decode cX7_withdraw 59 = .ok (.iload_n 2, 1) := by decide +kernel
theorem dX7_withdraw_60 : decode cX7_withdraw 60 = .ok (.bipush 6, 2) := by decide +kernel
theorem dX7_withdraw_62 : decode cX7_withdraw 62 = .ok (.iadd, 1) := by decide +kernel
theorem dX7_withdraw_63 : decode cX7_withdraw 63 = .ok (.iaload, 1) := by decide +kernel
theorem dX7_withdraw_64 : decode cX7_withdraw 64 = .ok (.istore_n 3, 1) := by decide +kernel
theorem dX7_withdraw_65 : decode cX7_withdraw 65 = .ok (.aload_n 0, 1) := by decide +kernel
theorem dX7_withdraw_66 : decode cX7_withdraw 66 = .ok (.iload_n 1, 1) := by decide +kernel
theorem dX7_withdraw_67 : decode cX7_withdraw 67 = .ok (.invokevirtual 243, 3) := by decide +kernel
theorem dX7_withdraw_70 : decode cX7_withdraw 70 = .ok (.ifCond .eq 31, 3) := by decide +kernel
theorem dX7_withdraw_73 : decode cX7_withdraw 73 = .ok (.aload_n 0, 1) := by decide +kernel
theorem dX7_withdraw_74 : decode cX7_withdraw 74 = .ok (.getfield 17, 3) := by decide +kernel
theorem dX7_withdraw_77 : decode cX7_withdraw 77 = .ok (.aload_n 0, 1) := by decide +kernel
theorem dX7_withdraw_78 : decode cX7_withdraw 78 = .ok (.getfield 17, 3) := by decide +kernel
theorem dX7_withdraw_81 : decode cX7_withdraw 81 = .ok (.iload_n 2, 1) := by decide +kernel
theorem dX7_withdraw_82 : decode cX7_withdraw 82 = .ok (.iconst 0, 1) := by decide +kernel
theorem dX7_withdraw_83 : decode cX7_withdraw 83 = .ok (.iadd, 1) := by decide +kernel
theorem dX7_withdraw_84 : decode cX7_withdraw 84 = .ok (.iaload, 1) := by decide +kernel
theorem dX7_withdraw_85 : decode cX7_withdraw 85 = .ok (.invokestatic 78, 3) := by decide +kernel
theorem dX7_withdraw_88 : decode cX7_withdraw 88 = .ok (.iconst 0, 1) := by decide +kernel
theorem dX7_withdraw_89 : decode cX7_withdraw 89 = .ok (.iadd, 1) := by decide +kernel
theorem dX7_withdraw_90 : decode cX7_withdraw 90 = .ok (.iaload, 1) := by decide +kernel
theorem dX7_withdraw_91 : decode cX7_withdraw 91 = .ok (.ifCond .eq 10, 3) := by decide +kernel
theorem dX7_withdraw_94 : decode cX7_withdraw 94 = .ok (.aload_n 0, 1) := by decide +kernel
theorem dX7_withdraw_95 : decode cX7_withdraw 95 = .ok (.iload_n 1, 1) := by decide +kernel
theorem dX7_withdraw_96 : decode cX7_withdraw 96 = .ok (.iconst 1, 1) := by decide +kernel
theorem dX7_withdraw_97 : decode cX7_withdraw 97 = .ok (.iconst 0, 1) := by decide +kernel
theorem dX7_withdraw_98 : decode cX7_withdraw 98 = .ok (.invokevirtual 246, 3) := by decide +kernel
theorem dX7_withdraw_101 : decode cX7_withdraw 101 = .ok (.aload_n 0, 1) := by decide +kernel
theorem dX7_withdraw_102 : decode cX7_withdraw 102 = .ok (.getfield 17, 3) := by decide +kernel
theorem dX7_withdraw_105 : decode cX7_withdraw 105 = .ok (.iload_n 2, 1) := by decide +kernel
theorem dX7_withdraw_106 : decode cX7_withdraw 106 = .ok (.bipush 6, 2) := by decide +kernel
theorem dX7_withdraw_108 : decode cX7_withdraw 108 = .ok (.iadd, 1) := by decide +kernel
theorem dX7_withdraw_109 : decode cX7_withdraw 109 = .ok (.iconst 3, 1) := by decide +kernel
theorem dX7_withdraw_110 : decode cX7_withdraw 110 = .ok (.iastore, 1) := by decide +kernel
theorem dX7_withdraw_111 : decode cX7_withdraw 111 = .ok (.aload_n 0, 1) := by decide +kernel
theorem dX7_withdraw_112 : decode cX7_withdraw 112 = .ok (.getfield 17, 3) := by decide +kernel
theorem dX7_withdraw_115 : decode cX7_withdraw 115 = .ok (.iload_n 2, 1) := by decide +kernel
theorem dX7_withdraw_116 : decode cX7_withdraw 116 = .ok (.bipush 8, 2) := by decide +kernel
theorem dX7_withdraw_118 : decode cX7_withdraw 118 = .ok (.iadd, 1) := by decide +kernel
theorem dX7_withdraw_119 : decode cX7_withdraw 119 = .ok (.iconst (-1), 1) := by decide +kernel
theorem dX7_withdraw_120 : decode cX7_withdraw 120 = .ok (.iastore, 1) := by decide +kernel
theorem dX7_withdraw_121 : decode cX7_withdraw 121 = .ok (.iload_n 3, 1) := by decide +kernel
theorem dX7_withdraw_122 : decode cX7_withdraw 122 = .ok (.ireturn, 1) := by decide +kernel
theorem dX7_setPort_0 : decode cX7_setPort 0 = .ok (.aload_n 0, 1) := by decide +kernel
theorem dX7_setPort_1 : decode cX7_setPort 1 = .ok (.aload_n 0, 1) := by decide +kernel
theorem dX7_setPort_2 : decode cX7_setPort 2 = .ok (.iload_n 1, 1) := by decide +kernel
theorem dX7_setPort_3 : decode cX7_setPort 3 = .ok (.invokevirtual 305, 3) := by decide +kernel
theorem dX7_setPort_6 : decode cX7_setPort 6 = .ok (.ifCond .ne 7, 3) := by decide +kernel
theorem dX7_setPort_9 : decode cX7_setPort 9 = .ok (.iconst 1, 1) := by decide +kernel
theorem dX7_setPort_10 : decode cX7_setPort 10 = .ok (.goto 20, 3) := by decide +kernel
theorem dX7_setPort_13 : decode cX7_setPort 13 = .ok (.iload_n 2, 1) := by decide +kernel
theorem dX7_setPort_14 : decode cX7_setPort 14 = .ok (.i2l, 1) := by decide +kernel
theorem dX7_setPort_15 : decode cX7_setPort 15 = .ok (.lconst 1, 1) := by decide +kernel
theorem dX7_setPort_16 : decode cX7_setPort 16 = .ok (.ldc2_w 323, 3) := by decide +kernel
theorem dX7_setPort_19 : decode cX7_setPort 19 = .ok (.invokestatic 92, 3) := by decide +kernel
theorem dX7_setPort_22 : decode cX7_setPort 22 = .ok (.ifCond .eq 7, 3) := by decide +kernel
theorem dX7_setPort_25 : decode cX7_setPort 25 = .ok (.iconst 0, 1) := by decide +kernel
theorem dX7_setPort_26 : decode cX7_setPort 26 = .ok (.goto 4, 3) := by decide +kernel
theorem dX7_setPort_29 : decode cX7_setPort 29 = .ok (.iconst 2, 1) := by decide +kernel
theorem dX7_setPort_30 : decode cX7_setPort 30 = .ok (.putfield 71, 3) := by decide +kernel
theorem dX7_setPort_33 : decode cX7_setPort 33 = .ok (.aload_n 0, 1) := by decide +kernel
theorem dX7_setPort_34 : decode cX7_setPort 34 = .ok (.getfield 71, 3) := by decide +kernel
theorem dX7_setPort_37 : decode cX7_setPort 37 = .ok (.ifCond .le 5, 3) := by decide +kernel
theorem dX7_setPort_40 : decode cX7_setPort 40 = .ok (.iconst 0, 1) := by decide +kernel
theorem dX7_setPort_41 : decode cX7_setPort 41 = .ok (.ireturn, 1) := by decide +kernel
theorem dX7_setPort_42 : decode cX7_setPort 42 = .ok (.aload_n 0, 1) := by decide +kernel
theorem dX7_setPort_43 : decode cX7_setPort 43 = .ok (.invokevirtual 363, 3) := by decide +kernel
theorem dX7_setPort_46 : decode cX7_setPort 46 = .ok (.iload_n 1, 1) := by decide +kernel
theorem dX7_setPort_47 : decode cX7_setPort 47 = .ok (.invokestatic 74, 3) := by decide +kernel
theorem dX7_setPort_50 : decode cX7_setPort 50 = .ok (.istore_n 3, 1) := by decide +kernel
theorem dX7_setPort_51 : decode cX7_setPort 51 = .ok (.aload_n 0, 1) := by decide +kernel
theorem dX7_setPort_52 : decode cX7_setPort 52 = .ok (.getfield 17, 3) := by decide +kernel
theorem dX7_setPort_55 : decode cX7_setPort 55 = .ok (.iload_n 3, 1) := by decide +kernel
theorem dX7_setPort_56 : decode cX7_setPort 56 = .ok (.iconst 4, 1) := by decide +kernel
theorem dX7_setPort_57 : decode cX7_setPort 57 = .ok (.iadd, 1) := by decide +kernel
theorem dX7_setPort_58 : decode cX7_setPort 58 = .ok (.iaload, 1) := by decide +kernel
theorem dX7_setPort_59 : decode cX7_setPort 59 = .ok (.istore 4, 2) := by decide +kernel
theorem dX7_setPort_61 : decode cX7_setPort 61 = .ok (.aload_n 0, 1) := by decide +kernel
theorem dX7_setPort_62 : decode cX7_setPort 62 = .ok (.getfield 17, 3) := by decide +kernel
theorem dX7_setPort_65 : decode cX7_setPort 65 = .ok (.iload_n 3, 1) := by decide +kernel
theorem dX7_setPort_66 : decode cX7_setPort 66 = .ok (.iconst 4, 1) := by decide +kernel
theorem dX7_setPort_67 : decode cX7_setPort 67 = .ok (.iadd, 1) := by decide +kernel
theorem dX7_setPort_68 : decode cX7_setPort 68 = .ok (.iload_n 2, 1) := by decide +kernel
theorem dX7_setPort_69 : decode cX7_setPort 69 = .ok (.iastore, 1) := by decide +kernel
theorem dX7_setPort_70 : decode cX7_setPort 70 = .ok (.aload_n 0, 1) := by decide +kernel
theorem dX7_setPort_71 : decode cX7_setPort 71 = .ok (.iload_n 1, 1) := by decide +kernel
theorem dX7_setPort_72 : decode cX7_setPort 72 = .ok (.invokevirtual 243, 3) := by decide +kernel
theorem dX7_setPort_75 : decode cX7_setPort 75 = .ok (.ifCond .eq 65, 3) := by decide +kernel
theorem dX7_setPort_78 : decode cX7_setPort 78 = .ok (.aload_n 0, 1) := by decide +kernel
theorem dX7_setPort_79 : decode cX7_setPort 79 = .ok (.getfield 17, 3) := by decide +kernel
theorem dX7_setPort_82 : decode cX7_setPort 82 = .ok (.aload_n 0, 1) := by decide +kernel
theorem dX7_setPort_83 : decode cX7_setPort 83 = .ok (.getfield 17, 3) := by decide +kernel
theorem dX7_setPort_86 : decode cX7_setPort 86 = .ok (.iload_n 3, 1) := by decide +kernel
theorem dX7_setPort_87 : decode cX7_setPort 87 = .ok (.iconst 0, 1) := by decide +kernel
theorem dX7_setPort_88 : decode cX7_setPort 88 = .ok (.iadd, 1) := by decide +kernel
theorem dX7_setPort_89 : decode cX7_setPort 89 = .ok (.iaload, 1) := by decide +kernel
theorem dX7_setPort_90 : decode cX7_setPort 90 = .ok (.invokestatic 78, 3) := by decide +kernel
theorem dX7_setPort_93 : decode cX7_setPort 93 = .ok (.iconst 0, 1) := by decide +kernel
theorem dX7_setPort_94 : decode cX7_setPort 94 = .ok (.iadd, 1) := by decide +kernel
theorem dX7_setPort_95 : decode cX7_setPort 95 = .ok (.iaload, 1) := by decide +kernel
theorem dX7_setPort_96 : decode cX7_setPort 96 = .ok (.ifCond .eq 44, 3) := by decide +kernel
theorem dX7_setPort_99 : decode cX7_setPort 99 = .ok (.aload_n 0, 1) := by decide +kernel
theorem dX7_setPort_100 : decode cX7_setPort 100 = .ok (.iload_n 1, 1) := by decide +kernel
theorem dX7_setPort_101 : decode cX7_setPort 101 = .ok (.iconst 1, 1) := by decide +kernel
theorem dX7_setPort_102 : decode cX7_setPort 102 = .ok (.aload_n 0, 1) := by decide +kernel
theorem dX7_setPort_103 : decode cX7_setPort 103 = .ok (.getfield 17, 3) := by decide +kernel
theorem dX7_setPort_106 : decode cX7_setPort 106 = .ok (.iload_n 3, 1) := by decide +kernel
theorem dX7_setPort_107 : decode cX7_setPort 107 = .ok (.iconst 5, 1) := by decide +kernel
theorem dX7_setPort_108 : decode cX7_setPort 108 = .ok (.iadd, 1) := by decide +kernel
theorem dX7_setPort_109 : decode cX7_setPort 109 = .ok (.iaload, 1) := by decide +kernel
theorem dX7_setPort_110 : decode cX7_setPort 110 = .ok (.invokevirtual 246, 3) := by decide +kernel
theorem dX7_setPort_113 : decode cX7_setPort 113 = .ok (.aload_n 0, 1) := by decide +kernel
theorem dX7_setPort_114 : decode cX7_setPort 114 = .ok (.getfield 17, 3) := by decide +kernel
theorem dX7_setPort_117 : decode cX7_setPort 117 = .ok (.iload_n 3, 1) := by decide +kernel
theorem dX7_setPort_118 : decode cX7_setPort 118 = .ok (.bipush 6, 2) := by decide +kernel
theorem dX7_setPort_120 : decode cX7_setPort 120 = .ok (.iadd, 1) := by decide +kernel
theorem dX7_setPort_121 : decode cX7_setPort 121 = .ok (.iconst 1, 1) := by decide +kernel
theorem dX7_setPort_122 : decode cX7_setPort 122 = .ok (.iastore, 1) := by decide +kernel
theorem dX7_setPort_123 : decode cX7_setPort 123 = .ok (.aload_n 0, 1) := by decide +kernel
theorem dX7_setPort_124 : decode cX7_setPort 124 = .ok (.getfield 17, 3) := by decide +kernel
theorem dX7_setPort_127 : decode cX7_setPort 127 = .ok (.iload_n 3, 1) := by decide +kernel
theorem dX7_setPort_128 : decode cX7_setPort 128 = .ok (.bipush 8, 2) := by decide +kernel
theorem dX7_setPort_130 : decode cX7_setPort 130 = .ok (.iadd, 1) := by decide +kernel
theorem dX7_setPort_131 : decode cX7_setPort 131 = .ok (.aload_n 0, 1) := by decide +kernel
theorem dX7_setPort_132 : decode cX7_setPort 132 = .ok (.getfield 17, 3) := by decide +kernel
theorem dX7_setPort_135 : decode cX7_setPort 135 = .ok (.iconst 0, 1) := by decide +kernel
theorem dX7_setPort_136 : decode cX7_setPort 136 = .ok (.iaload, 1) := by decide +kernel
theorem dX7_setPort_137 : decode cX7_setPort 137 = .ok (.iconst 4, 1) := by decide +kernel
theorem dX7_setPort_138 : decode cX7_setPort 138 = .ok (.iadd, 1) := by decide +kernel
theorem dX7_setPort_139 : decode cX7_setPort 139 = .ok (.iastore, 1) := by decide +kernel
theorem dX7_setPort_140 : decode cX7_setPort 140 = .ok (.iload 4, 2) := by decide +kernel
theorem dX7_setPort_142 : decode cX7_setPort 142 = .ok (.ireturn, 1) := by decide +kernel
theorem dX7_goesOff_0 : decode cX7_goesOff 0 = .ok (.iconst 0, 1) := by decide +kernel
theorem dX7_goesOff_1 : decode cX7_goesOff 1 = .ok (.istore_n 3, 1) := by decide +kernel
theorem dX7_goesOff_2 : decode cX7_goesOff 2 = .ok (.iload_n 3, 1) := by decide +kernel
theorem dX7_goesOff_3 : decode cX7_goesOff 3 = .ok (.aload_n 0, 1) := by decide +kernel
theorem dX7_goesOff_4 : decode cX7_goesOff 4 = .ok (.getfield 17, 3) := by decide +kernel
theorem dX7_goesOff_7 : decode cX7_goesOff 7 = .ok (.bipush 8, 2) := by decide +kernel
theorem dX7_goesOff_9 : decode cX7_goesOff 9 = .ok (.iaload, 1) := by decide +kernel
theorem dX7_goesOff_10 : decode cX7_goesOff 10 = .ok (.if_icmp .ge 47, 3) := by decide +kernel
theorem dX7_goesOff_13 : decode cX7_goesOff 13 = .ok (.iload_n 3, 1) := by decide +kernel
theorem dX7_goesOff_14 : decode cX7_goesOff 14 = .ok (.invokestatic 74, 3) := by decide +kernel
theorem dX7_goesOff_17 : decode cX7_goesOff 17 = .ok (.istore 4, 2) := by decide +kernel
theorem dX7_goesOff_19 : decode cX7_goesOff 19 = .ok (.aload_n 0, 1) := by decide +kernel
theorem dX7_goesOff_20 : decode cX7_goesOff 20 = .ok (.getfield 17, 3) := by decide +kernel
theorem dX7_goesOff_23 : decode cX7_goesOff 23 = .ok (.iload 4, 2) := by decide +kernel
theorem dX7_goesOff_25 : decode cX7_goesOff 25 = .ok (.iconst 0, 1) := by decide +kernel
theorem dX7_goesOff_26 : decode cX7_goesOff 26 = .ok (.iadd, 1) := by decide +kernel
theorem dX7_goesOff_27 : decode cX7_goesOff 27 = .ok (.iaload, 1) := by decide +kernel
theorem dX7_goesOff_28 : decode cX7_goesOff 28 = .ok (.iload_n 1, 1) := by decide +kernel
theorem dX7_goesOff_29 : decode cX7_goesOff 29 = .ok (.if_icmp .ne 22, 3) := by decide +kernel
theorem dX7_goesOff_32 : decode cX7_goesOff 32 = .ok (.iload_n 2, 1) := by decide +kernel
theorem dX7_goesOff_33 : decode cX7_goesOff 33 = .ok (.ifCond .eq 18, 3) := by decide +kernel
theorem dX7_goesOff_36 : decode cX7_goesOff 36 = .ok (.aload_n 0, 1) := by decide +kernel
theorem dX7_goesOff_37 : decode cX7_goesOff 37 = .ok (.iload_n 3, 1) := by decide +kernel
theorem dX7_goesOff_38 : decode cX7_goesOff 38 = .ok (.invokevirtual 243, 3) := by decide +kernel
theorem dX7_goesOff_41 : decode cX7_goesOff 41 = .ok (.ifCond .eq 10, 3) := by decide +kernel
theorem dX7_goesOff_44 : decode cX7_goesOff 44 = .ok (.aload_n 0, 1) := by decide +kernel
theorem dX7_goesOff_45 : decode cX7_goesOff 45 = .ok (.iload_n 3, 1) := by decide +kernel
theorem dX7_goesOff_46 : decode cX7_goesOff 46 = .ok (.iconst 1, 1) := by decide +kernel
theorem dX7_goesOff_47 : decode cX7_goesOff 47 = .ok (.iconst 0, 1) := by decide +kernel
theorem dX7_goesOff_48 : decode cX7_goesOff 48 = .ok (.invokevirtual 246, 3) := by decide +kernel
theorem dX7_goesOff_51 : decode cX7_goesOff 51 = .ok (.iinc 3 1, 3) := by decide +kernel
theorem dX7_goesOff_54 : decode cX7_goesOff 54 = .ok (.goto (-52), 3) := by decide +kernel
theorem dX7_goesOff_57 : decode cX7_goesOff 57 = .ok (.iconst 0, 1) := by decide +kernel
theorem dX7_goesOff_58 : decode cX7_goesOff 58 = .ok (.istore_n 3, 1) := by decide +kernel
theorem dX7_goesOff_59 : decode cX7_goesOff 59 = .ok (.iload_n 3, 1) := by decide +kernel
theorem dX7_goesOff_60 : decode cX7_goesOff 60 = .ok (.aload_n 0, 1) := by decide +kernel
theorem dX7_goesOff_61 : decode cX7_goesOff 61 = .ok (.getfield 17, 3) := by decide +kernel
theorem dX7_goesOff_64 : decode cX7_goesOff 64 = .ok (.bipush 8, 2) := by decide +kernel
theorem dX7_goesOff_66 : decode cX7_goesOff 66 = .ok (.iaload, 1) := by decide +kernel
theorem dX7_goesOff_67 : decode cX7_goesOff 67 = .ok (.if_icmp .ge 52, 3) := by decide +kernel
theorem dX7_goesOff_70 : decode cX7_goesOff 70 = .ok (.aload_n 0, 1) := by decide +kernel
theorem dX7_goesOff_71 : decode cX7_goesOff 71 = .ok (.getfield 17, 3) := by decide +kernel
theorem dX7_goesOff_74 : decode cX7_goesOff 74 = .ok (.iload_n 3, 1) := by decide +kernel
theorem dX7_goesOff_75 : decode cX7_goesOff 75 = .ok (.invokestatic 74, 3) := by decide +kernel
theorem dX7_goesOff_78 : decode cX7_goesOff 78 = .ok (.bipush 8, 2) := by decide +kernel
theorem dX7_goesOff_80 : decode cX7_goesOff 80 = .ok (.iadd, 1) := by decide +kernel
theorem dX7_goesOff_81 : decode cX7_goesOff 81 = .ok (.aload_n 0, 1) := by decide +kernel
theorem dX7_goesOff_82 : decode cX7_goesOff 82 = .ok (.getfield 17, 3) := by decide +kernel
theorem dX7_goesOff_85 : decode cX7_goesOff 85 = .ok (.iload_n 3, 1) := by decide +kernel
theorem dX7_goesOff_86 : decode cX7_goesOff 86 = .ok (.invokestatic 74, 3) := by decide +kernel
theorem dX7_goesOff_89 : decode cX7_goesOff 89 = .ok (.iconst 0, 1) := by decide +kernel
theorem dX7_goesOff_90 : decode cX7_goesOff 90 = .ok (.iadd, 1) := by decide +kernel
theorem dX7_goesOff_91 : decode cX7_goesOff 91 = .ok (.iaload, 1) := by decide +kernel
theorem dX7_goesOff_92 : decode cX7_goesOff 92 = .ok (.iload_n 1, 1) := by decide +kernel
theorem dX7_goesOff_93 : decode cX7_goesOff 93 = .ok (.if_icmp .ne 7, 3) := by decide +kernel
theorem dX7_goesOff_96 : decode cX7_goesOff 96 = .ok (.iconst (-1), 1) := by decide +kernel
theorem dX7_goesOff_97 : decode cX7_goesOff 97 = .ok (.goto 15, 3) := by decide +kernel
theorem dX7_goesOff_100 : decode cX7_goesOff 100 = .ok (.aload_n 0, 1) := by decide +kernel
theorem dX7_goesOff_101 : decode cX7_goesOff 101 = .ok (.getfield 17, 3) := by decide +kernel
theorem dX7_goesOff_104 : decode cX7_goesOff 104 = .ok (.iload_n 3, 1) := by decide +kernel
theorem dX7_goesOff_105 : decode cX7_goesOff 105 = .ok (.invokestatic 74, 3) := by decide +kernel
theorem dX7_goesOff_108 : decode cX7_goesOff 108 = .ok (.bipush 8, 2) := by decide +kernel
theorem dX7_goesOff_110 : decode cX7_goesOff 110 = .ok (.iadd, 1) := by decide +kernel
theorem dX7_goesOff_111 : decode cX7_goesOff 111 = .ok (.iaload, 1) := by decide +kernel
theorem dX7_goesOff_112 : decode cX7_goesOff 112 = .ok (.iastore, 1) := by decide +kernel
theorem dX7_goesOff_113 : decode cX7_goesOff 113 = .ok (.iinc 3 1, 3) := by decide +kernel
theorem dX7_goesOff_116 : decode cX7_goesOff 116 = .ok (.goto (-57), 3) := by decide +kernel
theorem dX7_goesOff_119 : decode cX7_goesOff 119 = .ok (.aload_n 0, 1) := by decide +kernel
theorem dX7_goesOff_120 : decode cX7_goesOff 120 = .ok (.getfield 17, 3) := by decide +kernel
theorem dX7_goesOff_123 : decode cX7_goesOff 123 = .ok (.iload_n 1, 1) := by decide +kernel
theorem dX7_goesOff_124 : decode cX7_goesOff 124 = .ok (.invokestatic 78, 3) := by decide +kernel
theorem dX7_goesOff_127 : decode cX7_goesOff 127 = .ok (.iconst 3, 1) := by decide +kernel
theorem dX7_goesOff_128 : decode cX7_goesOff 128 = .ok (.iadd, 1) := by decide +kernel
theorem dX7_goesOff_129 : decode cX7_goesOff 129 = .ok (.iconst 0, 1) := by decide +kernel
theorem dX7_goesOff_130 : decode cX7_goesOff 130 = .ok (.iastore, 1) := by decide +kernel
theorem dX7_goesOff_131 : decode cX7_goesOff 131 = .ok (.iconst 0, 1) := by decide +kernel
theorem dX7_goesOff_132 : decode cX7_goesOff 132 = .ok (.istore_n 3, 1) := by decide +kernel
theorem dX7_goesOff_133 : decode cX7_goesOff 133 = .ok (.iload_n 3, 1) := by decide +kernel
theorem dX7_goesOff_134 : decode cX7_goesOff 134 = .ok (.aload_n 0, 1) := by decide +kernel
theorem dX7_goesOff_135 : decode cX7_goesOff 135 = .ok (.getfield 202, 3) := by decide +kernel
theorem dX7_goesOff_138 : decode cX7_goesOff 138 = .ok (.if_icmp .ge 22, 3) := by decide +kernel
theorem dX7_goesOff_141 : decode cX7_goesOff 141 = .ok (.aload_n 0, 1) := by decide +kernel
theorem dX7_goesOff_142 : decode cX7_goesOff 142 = .ok (.getfield 17, 3) := by decide +kernel
theorem dX7_goesOff_145 : decode cX7_goesOff 145 = .ok (.iload_n 1, 1) := by decide +kernel
theorem dX7_goesOff_146 : decode cX7_goesOff 146 = .ok (.iload_n 3, 1) := by decide +kernel
theorem dX7_goesOff_147 : decode cX7_goesOff 147 = .ok (.invokestatic 81, 3) := by decide +kernel
theorem dX7_goesOff_150 : decode cX7_goesOff 150 = .ok (.iconst 0, 1) := by decide +kernel
theorem dX7_goesOff_151 : decode cX7_goesOff 151 = .ok (.iadd, 1) := by decide +kernel
theorem dX7_goesOff_152 : decode cX7_goesOff 152 = .ok (.iconst 0, 1) := by decide +kernel
theorem dX7_goesOff_153 : decode cX7_goesOff 153 = .ok (.iastore, 1) := by decide +kernel
theorem dX7_goesOff_154 : decode cX7_goesOff 154 = .ok (.iinc 3 1, 3) := by decide +kernel
theorem dX7_goesOff_157 : decode cX7_goesOff 157 = .ok (.goto (-24), 3) := by decide +kernel
theorem dX7_goesOff_160 : decode cX7_goesOff 160 = .ok (.aload_n 0, 1) := by decide +kernel
theorem dX7_goesOff_161 : decode cX7_goesOff 161 = .ok (.getfield 17, 3) := by decide +kernel
theorem dX7_goesOff_164 : decode cX7_goesOff 164 = .ok (.iload_n 1, 1) := by decide +kernel
theorem dX7_goesOff_165 : decode cX7_goesOff 165 = .ok (.invokestatic 78, 3) := by decide +kernel
theorem dX7_goesOff_168 : decode cX7_goesOff 168 = .ok (.iconst 0, 1) := by decide +kernel
theorem dX7_goesOff_169 : decode cX7_goesOff 169 = .ok (.iadd, 1) := by decide +kernel
theorem dX7_goesOff_170 : decode cX7_goesOff 170 = .ok (.iconst 0, 1) := by decide +kernel
theorem dX7_goesOff_171 : decode cX7_goesOff 171 = .ok (.iastore, 1) := by decide +kernel
theorem dX7_goesOff_172 : decode cX7_goesOff 172 = .ok (.return_, 1) := by decide +kernel
theorem dX7_setOn_0 : decode cX7_setOn 0 = .ok (.aload_n 0, 1) := by decide +kernel
theorem dX7_setOn_1 : decode cX7_setOn 1 = .ok (.aload_n 0, 1) := by decide +kernel
theorem dX7_setOn_2 : decode cX7_setOn 2 = .ok (.iload_n 1, 1) := by decide +kernel
theorem dX7_setOn_3 : decode cX7_setOn 3 = .ok (.invokevirtual 300, 3) := by decide +kernel
theorem dX7_setOn_6 : decode cX7_setOn 6 = .ok (.ifCond .eq 7, 3) := by decide +kernel
theorem dX7_setOn_9 : decode cX7_setOn 9 = .ok (.iconst 0, 1) := by decide +kernel
theorem dX7_setOn_10 : decode cX7_setOn 10 = .ok (.goto 4, 3) := by decide +kernel
theorem dX7_setOn_13 : decode cX7_setOn 13 = .ok (.iconst 1, 1) := by decide +kernel
theorem dX7_setOn_14 : decode cX7_setOn 14 = .ok (.putfield 71, 3) := by decide +kernel
theorem dX7_setOn_17 : decode cX7_setOn 17 = .ok (.aload_n 0, 1) := by decide +kernel
theorem dX7_setOn_18 : decode cX7_setOn 18 = .ok (.getfield 71, 3) := by decide +kernel
theorem dX7_setOn_21 : decode cX7_setOn 21 = .ok (.ifCond .le 5, 3) := by decide +kernel
theorem dX7_setOn_24 : decode cX7_setOn 24 = .ok (.iconst 0, 1) := by decide +kernel
theorem dX7_setOn_25 : decode cX7_setOn 25 = .ok (.ireturn, 1) := by decide +kernel
theorem dX7_setOn_26 : decode cX7_setOn 26 = .ok (.aload_n 0, 1) := by decide +kernel
theorem dX7_setOn_27 : decode cX7_setOn 27 = .ok (.invokevirtual 363, 3) := by decide +kernel
theorem dX7_setOn_30 : decode cX7_setOn 30 = .ok (.aload_n 0, 1) := by decide +kernel
theorem dX7_setOn_31 : decode cX7_setOn 31 = .ok (.getfield 17, 3) := by decide +kernel
theorem dX7_setOn_34 : decode cX7_setOn 34 = .ok (.iload_n 1, 1) := by decide +kernel
theorem dX7_setOn_35 : decode cX7_setOn 35 = .ok (.invokestatic 78, 3) := by decide +kernel
theorem dX7_setOn_38 : decode cX7_setOn 38 = .ok (.iconst 0, 1) := by decide +kernel
theorem dX7_setOn_39 : decode cX7_setOn 39 = .ok (.iadd, 1) := by decide +kernel
theorem dX7_setOn_40 : decode cX7_setOn 40 = .ok (.iaload, 1) := by decide +kernel
theorem dX7_setOn_41 : decode cX7_setOn 41 = .ok (.ifCond .eq 7, 3) := by decide +kernel
theorem dX7_setOn_44 : decode cX7_setOn 44 = .ok (.iconst 1, 1) := by decide +kernel
theorem dX7_setOn_45 : decode cX7_setOn 45 = .ok (.goto 4, 3) := by decide +kernel
theorem dX7_setOn_49 : decode cX7_setOn 49 = .ok (.istore 4, 2) := by decide +kernel
theorem dX7_setOn_51 : decode cX7_setOn 51 = .ok (.iload 4, 2) := by decide +kernel
theorem dX7_setOn_53 : decode cX7_setOn 53 = .ok (.ifCond .eq 16, 3) := by decide +kernel
theorem dX7_setOn_56 : decode cX7_setOn 56 = .ok (.iload_n 2, 1) := by decide +kernel
theorem dX7_setOn_57 : decode cX7_setOn 57 = .ok (.ifCond .ne 12, 3) := by decide +kernel
theorem dX7_setOn_60 : decode cX7_setOn 60 = .ok (.aload_n 0, 1) := by decide +kernel
theorem dX7_setOn_61 : decode cX7_setOn 61 = .ok (.iload_n 1, 1) := by decide +kernel
theorem dX7_setOn_62 : decode cX7_setOn 62 = .ok (.iload_n 3, 1) := by decide +kernel
theorem dX7_setOn_63 : decode cX7_setOn 63 = .ok (.invokevirtual 370, 3) := by decide +kernel
theorem dX7_setOn_66 : decode cX7_setOn 66 = .ok (.goto 90, 3) := by decide +kernel
theorem dX7_setOn_69 : decode cX7_setOn 69 = .ok (.iload 4, 2) := by decide +kernel
theorem dX7_setOn_71 : decode cX7_setOn 71 = .ok (.ifCond .ne 85, 3) := by decide +kernel
theorem dX7_setOn_74 : decode cX7_setOn 74 = .ok (.iload_n 2, 1) := by decide +kernel
theorem dX7_setOn_75 : decode cX7_setOn 75 = .ok (.ifCond .eq 81, 3) := by decide +kernel
theorem dX7_setOn_78 : decode cX7_setOn 78 = .ok (.aload_n 0, 1) := by decide +kernel
theorem dX7_setOn_79 : decode cX7_setOn 79 = .ok (.getfield 17, 3) := by decide +kernel
theorem dX7_setOn_82 : decode cX7_setOn 82 = .ok (.iload_n 1, 1) := by decide +kernel
theorem dX7_setOn_83 : decode cX7_setOn 83 = .ok (.invokestatic 78, 3) := by decide +kernel
theorem dX7_setOn_86 : decode cX7_setOn 86 = .ok (.iconst 0, 1) := by decide +kernel
theorem dX7_setOn_87 : decode cX7_setOn 87 = .ok (.iadd, 1) := by decide +kernel
theorem dX7_setOn_88 : decode cX7_setOn 88 = .ok (.iconst 1, 1) := by decide +kernel
theorem dX7_setOn_89 : decode cX7_setOn 89 = .ok (.iastore, 1) := by decide +kernel
theorem dX7_setOn_90 : decode cX7_setOn 90 = .ok (.iconst 0, 1) := by decide +kernel
theorem dX7_setOn_91 : decode cX7_setOn 91 = .ok (.istore 5, 2) := by decide +kernel
theorem dX7_setOn_156 : decode cX7_setOn 156 = .ok (.iconst 0, 1) := by decide +kernel
theorem dX7_setOn_157 : decode cX7_setOn 157 = .ok (.istore 5, 2) := by decide +kernel
theorem dX7_setOn_159 : decode cX7_setOn 159 = .ok (.iconst 0, 1) := by decide +kernel
theorem dX7_setOn_160 : decode cX7_setOn 160 = .ok (.istore 6, 2) := by decide +kernel
theorem dX7_setOn_162 : decode cX7_setOn 162 = .ok (.iload 6, 2) := by decide +kernel
theorem dX7_setOn_164 : decode cX7_setOn 164 = .ok (.aload_n 0, 1) := by decide +kernel
theorem dX7_setOn_165 : decode cX7_setOn 165 = .ok (.getfield 199, 3) := by decide +kernel
theorem dX7_setOn_168 : decode cX7_setOn 168 = .ok (.if_icmp .ge 26, 3) := by decide +kernel
theorem dX7_setOn_171 : decode cX7_setOn 171 = .ok (.iload 5, 2) := by decide +kernel
theorem dX7_setOn_173 : decode cX7_setOn 173 = .ok (.aload_n 0, 1) := by decide +kernel
theorem dX7_setOn_174 : decode cX7_setOn 174 = .ok (.getfield 17, 3) := by decide +kernel
theorem dX7_setOn_177 : decode cX7_setOn 177 = .ok (.iload 6, 2) := by decide +kernel
theorem dX7_setOn_179 : decode cX7_setOn 179 = .ok (.invokestatic 78, 3) := by decide +kernel
theorem dX7_setOn_182 : decode cX7_setOn 182 = .ok (.iconst 0, 1) := by decide +kernel
theorem dX7_setOn_183 : decode cX7_setOn 183 = .ok (.iadd, 1) := by decide +kernel
theorem dX7_setOn_184 : decode cX7_setOn 184 = .ok (.iaload, 1) := by decide +kernel
theorem dX7_setOn_185 : decode cX7_setOn 185 = .ok (.iadd, 1) := by decide +kernel
theorem dX7_setOn_186 : decode cX7_setOn 186 = .ok (.istore 5, 2) := by decide +kernel
theorem dX7_setOn_188 : decode cX7_setOn 188 = .ok (.iinc 6 1, 3) := by decide +kernel
theorem dX7_setOn_191 : decode cX7_setOn 191 = .ok (.goto (-29), 3) := by decide +kernel
theorem dX7_setOn_194 : decode cX7_setOn 194 = .ok (.iload 5, 2) := by decide +kernel
theorem dX7_setOn_196 : decode cX7_setOn 196 = .ok (.ireturn, 1) := by decide +kernel
theorem dX7_setSide_0 : decode cX7_setSide 0 = .ok (.aload_n 0, 1) := by decide +kernel
theorem dX7_setSide_1 : decode cX7_setSide 1 = .ok (.aload_n 0, 1) := by decide +kernel
theorem dX7_setSide_2 : decode cX7_setSide 2 = .ok (.iload_n 1, 1) := by decide +kernel
theorem dX7_setSide_3 : decode cX7_setSide 3 = .ok (.invokevirtual 300, 3) := by decide +kernel
theorem dX7_setSide_6 : decode cX7_setSide 6 = .ok (.ifCond .ne 7, 3) := by decide +kernel
theorem dX7_setSide_9 : decode cX7_setSide 9 = .ok (.iconst 1, 1) := by decide +kernel
theorem dX7_setSide_10 : decode cX7_setSide 10 = .ok (.goto 18, 3) := by decide +kernel
theorem dX7_setSide_13 : decode cX7_setSide 13 = .ok (.iload_n 2, 1) := by decide +kernel
theorem dX7_setSide_14 : decode cX7_setSide 14 = .ok (.i2l, 1) := by decide +kernel
theorem dX7_setSide_15 : decode cX7_setSide 15 = .ok (.lconst 0, 1) := by decide +kernel
theorem dX7_setSide_16 : decode cX7_setSide 16 = .ok (.lconst 1, 1) := by decide +kernel
theorem dX7_setSide_17 : decode cX7_setSide 17 = .ok (.invokestatic 92, 3) := by decide +kernel
theorem dX7_setSide_20 : decode cX7_setSide 20 = .ok (.ifCond .eq 7, 3) := by decide +kernel
theorem dX7_setSide_23 : decode cX7_setSide 23 = .ok (.iconst 0, 1) := by decide +kernel
theorem dX7_setSide_24 : decode cX7_setSide 24 = .ok (.goto 4, 3) := by decide +kernel
theorem dX7_setSide_27 : decode cX7_setSide 27 = .ok (.iconst 2, 1) := by decide +kernel
theorem dX7_setSide_28 : decode cX7_setSide 28 = .ok (.putfield 71, 3) := by decide +kernel
theorem dX7_setSide_31 : decode cX7_setSide 31 = .ok (.aload_n 0, 1) := by decide +kernel
theorem dX7_setSide_32 : decode cX7_setSide 32 = .ok (.getfield 71, 3) := by decide +kernel
theorem dX7_setSide_35 : decode cX7_setSide 35 = .ok (.ifCond .le 5, 3) := by decide +kernel
theorem dX7_setSide_38 : decode cX7_setSide 38 = .ok (.iconst 0, 1) := by decide +kernel
theorem dX7_setSide_39 : decode cX7_setSide 39 = .ok (.ireturn, 1) := by decide +kernel
theorem dX7_setSide_40 : decode cX7_setSide 40 = .ok (.aload_n 0, 1) := by decide +kernel
theorem dX7_setSide_41 : decode cX7_setSide 41 = .ok (.invokevirtual 363, 3) := by decide +kernel
theorem dX7_setSide_44 : decode cX7_setSide 44 = .ok (.aload_n 0, 1) := by decide +kernel
theorem dX7_setSide_45 : decode cX7_setSide 45 = .ok (.getfield 17, 3) := by decide +kernel
theorem dX7_setSide_48 : decode cX7_setSide 48 = .ok (.iload_n 1, 1) := by decide +kernel
theorem dX7_setSide_49 : decode cX7_setSide 49 = .ok (.invokestatic 78, 3) := by decide +kernel
theorem dX7_setSide_52 : decode cX7_setSide 52 = .ok (.iconst 1, 1) := by decide +kernel
theorem dX7_setSide_53 : decode cX7_setSide 53 = .ok (.iadd, 1) := by decide +kernel
theorem dX7_setSide_54 : decode cX7_setSide 54 = .ok (.iaload, 1) := by decide +kernel
theorem dX7_setSide_55 : decode cX7_setSide 55 = .ok (.istore_n 3, 1) := by decide +kernel
theorem dX7_setSide_56 : decode cX7_setSide 56 = .ok (.aload_n 0, 1) := by decide +kernel
theorem dX7_setSide_57 : decode cX7_setSide 57 = .ok (.getfield 17, 3) := by decide +kernel
theorem dX7_setSide_60 : decode cX7_setSide 60 = .ok (.iload_n 1, 1) := by decide +kernel
theorem dX7_setSide_61 : decode cX7_setSide 61 = .ok (.invokestatic 78, 3) := by decide +kernel
theorem dX7_setSide_64 : decode cX7_setSide 64 = .ok (.iconst 1, 1) := by decide +kernel
theorem dX7_setSide_65 : decode cX7_setSide 65 = .ok (.iadd, 1) := by decide +kernel
theorem dX7_setSide_66 : decode cX7_setSide 66 = .ok (.iload_n 2, 1) := by decide +kernel
theorem dX7_setSide_67 : decode cX7_setSide 67 = .ok (.iastore, 1) := by decide +kernel
theorem dX7_setSide_68 : decode cX7_setSide 68 = .ok (.iload_n 3, 1) := by decide +kernel
theorem dX7_setSide_69 : decode cX7_setSide 69 = .ok (.ireturn, 1) := by decide +kernel
theorem dX7_browse_0 : decode cX7_browse 0 = .ok (.aload_n 0, 1) := by decide +kernel
theorem dX7_browse_1 : decode cX7_browse 1 = .ok (.aload_n 0, 1) := by decide +kernel
theorem dX7_browse_2 : decode cX7_browse 2 = .ok (.iload_n 1, 1) := by decide +kernel
theorem dX7_browse_3 : decode cX7_browse 3 = .ok (.invokevirtual 300, 3) := by decide +kernel
theorem dX7_browse_6 : decode cX7_browse 6 = .ok (.ifCond .eq 11, 3) := by decide +kernel
theorem dX7_browse_9 : decode cX7_browse 9 = .ok (.aload_n 0, 1) := by decide +kernel
theorem dX7_browse_10 : decode cX7_browse 10 = .ok (.iload_n 2, 1) := by decide +kernel
theorem dX7_browse_11 : decode cX7_browse 11 = .ok (.invokevirtual 318, 3) := by decide +kernel
theorem dX7_browse_14 : decode cX7_browse 14 = .ok (.ifCond .ne 7, 3) := by decide +kernel
theorem dX7_browse_17 : decode cX7_browse 17 = .ok (.iconst 1, 1) := by decide +kernel
theorem dX7_browse_18 : decode cX7_browse 18 = .ok (.goto 26, 3) := by decide +kernel
theorem dX7_browse_21 : decode cX7_browse 21 = .ok (.iload_n 3, 1) := by decide +kernel
theorem dX7_browse_22 : decode cX7_browse 22 = .ok (.ifCond .eq 21, 3) := by decide +kernel
theorem dX7_browse_25 : decode cX7_browse 25 = .ok (.aload_n 0, 1) := by decide +kernel
theorem dX7_browse_26 : decode cX7_browse 26 = .ok (.getfield 17, 3) := by decide +kernel
theorem dX7_browse_29 : decode cX7_browse 29 = .ok (.iload_n 1, 1) := by decide +kernel
theorem dX7_browse_30 : decode cX7_browse 30 = .ok (.invokestatic 78, 3) := by decide +kernel
theorem dX7_browse_33 : decode cX7_browse 33 = .ok (.iconst 0, 1) := by decide +kernel
theorem dX7_browse_34 : decode cX7_browse 34 = .ok (.iadd, 1) := by decide +kernel
theorem dX7_browse_35 : decode cX7_browse 35 = .ok (.iaload, 1) := by decide +kernel
theorem dX7_browse_36 : decode cX7_browse 36 = .ok (.ifCond .ne 7, 3) := by decide +kernel
theorem dX7_browse_39 : decode cX7_browse 39 = .ok (.iconst 2, 1) := by decide +kernel
theorem dX7_browse_40 : decode cX7_browse 40 = .ok (.goto 4, 3) := by decide +kernel
theorem dX7_browse_43 : decode cX7_browse 43 = .ok (.iconst 0, 1) := by decide +kernel
theorem dX7_browse_44 : decode cX7_browse 44 = .ok (.putfield 71, 3) := by decide +kernel
theorem dX7_browse_47 : decode cX7_browse 47 = .ok (.aload_n 0, 1) := by decide +kernel
theorem dX7_browse_48 : decode cX7_browse 48 = .ok (.getfield 71, 3) := by decide +kernel
theorem dX7_browse_51 : decode cX7_browse 51 = .ok (.ifCond .le 5, 3) := by decide +kernel
theorem dX7_browse_54 : decode cX7_browse 54 = .ok (.iconst 0, 1) := by decide +kernel
theorem dX7_browse_55 : decode cX7_browse 55 = .ok (.ireturn, 1) := by decide +kernel
theorem dX7_browse_56 : decode cX7_browse 56 = .ok (.aload_n 0, 1) := by decide +kernel
theorem dX7_browse_57 : decode cX7_browse 57 = .ok (.invokevirtual 363, 3) := by decide +kernel
theorem dX7_browse_60 : decode cX7_browse 60 = .ok (.iload_n 3, 1) := by decide +kernel
theorem dX7_browse_61 : decode cX7_browse 61 = .ok (.ifCond .ne 19, 3) := by decide +kernel
theorem dX7_browse_64 : decode cX7_browse 64 = .ok (.aload_n 0, 1) := by decide +kernel
theorem dX7_browse_65 : decode cX7_browse 65 = .ok (.getfield 17, 3) := by decide +kernel
theorem dX7_browse_68 : decode cX7_browse 68 = .ok (.iload_n 1, 1) := by decide +kernel
theorem dX7_browse_69 : decode cX7_browse 69 = .ok (.iload_n 2, 1) := by decide +kernel
theorem dX7_browse_70 : decode cX7_browse 70 = .ok (.invokestatic 81, 3) := by decide +kernel
theorem dX7_browse_73 : decode cX7_browse 73 = .ok (.iconst 0, 1) := by decide +kernel
theorem dX7_browse_74 : decode cX7_browse 74 = .ok (.iadd, 1) := by decide +kernel
theorem dX7_browse_75 : decode cX7_browse 75 = .ok (.iconst 0, 1) := by decide +kernel
theorem dX7_browse_76 : decode cX7_browse 76 = .ok (.iastore, 1) := by decide +kernel
theorem dX7_browse_77 : decode cX7_browse 77 = .ok (.goto 27, 3) := by decide +kernel
theorem dX7_browse_80 : decode cX7_browse 80 = .ok (.aload_n 0, 1) := by decide +kernel
theorem dX7_browse_81 : decode cX7_browse 81 = .ok (.getfield 17, 3) := by decide +kernel
theorem dX7_browse_84 : decode cX7_browse 84 = .ok (.iload_n 1, 1) := by decide +kernel
theorem dX7_browse_85 : decode cX7_browse 85 = .ok (.iload_n 2, 1) := by decide +kernel
theorem dX7_browse_86 : decode cX7_browse 86 = .ok (.invokestatic 81, 3) := by decide +kernel
theorem dX7_browse_89 : decode cX7_browse 89 = .ok (.iconst 0, 1) := by decide +kernel
theorem dX7_browse_90 : decode cX7_browse 90 = .ok (.iadd, 1) := by decide +kernel
theorem dX7_browse_91 : decode cX7_browse 91 = .ok (.iaload, 1) := by decide +kernel
theorem dX7_browse_92 : decode cX7_browse 92 = .ok (.ifCond .ne 12, 3) := by decide +kernel
theorem dX7_browse_95 : decode cX7_browse 95 = .ok (.aload_n 0, 1) := by decide +kernel
theorem dX7_browse_96 : decode cX7_browse 96 = .ok (.getfield 17, 3) := by decide +kernel
theorem dX7_browse_99 : decode cX7_browse 99 = .ok (.iload_n 1, 1) := by decide +kernel
theorem dX7_browse_100 : decode cX7_browse 100 = .ok (.iload_n 2, 1) := by decide +kernel
theorem dX7_browse_101 : decode cX7_browse 101 = .ok (.invokestatic 64, 3) := by decide +kernel
theorem dX7_browse_104 : decode cX7_browse 104 = .ok (.aload_n 0, 1) := by decide +kernel
theorem dX7_browse_105 : decode cX7_browse 105 = .ok (.iload_n 1, 1) := by decide +kernel
theorem dX7_browse_106 : decode cX7_browse 106 = .ok (.invokevirtual 294, 3) := by decide +kernel
theorem dX7_browse_109 : decode cX7_browse 109 = .ok (.ireturn, 1) := by decide +kernel
theorem dX7_mark_0 : decode cX7_mark 0 = .ok (.aload_n 0, 1) := by decide +kernel
theorem dX7_mark_1 : decode cX7_mark 1 = .ok (.iload_n 1, 1) := by decide +kernel
theorem dX7_mark_2 : decode cX7_mark 2 = .ok (.i2l, 1) := by decide +kernel
theorem dX7_mark_3 : decode cX7_mark 3 = .ok (.lconst 0, 1) := by decide +kernel
theorem dX7_mark_4 : decode cX7_mark 4 = .ok (.ldc2_w 323, 3) := by decide +kernel
theorem dX7_mark_7 : decode cX7_mark 7 = .ok (.invokestatic 92, 3) := by decide +kernel
theorem dX7_mark_10 : decode cX7_mark 10 = .ok (.ifCond .ne 7, 3) := by decide +kernel
theorem dX7_mark_13 : decode cX7_mark 13 = .ok (.iconst 1, 1) := by decide +kernel
theorem dX7_mark_14 : decode cX7_mark 14 = .ok (.goto 41, 3) := by decide +kernel
theorem dX7_mark_17 : decode cX7_mark 17 = .ok (.iload_n 1, 1) := by decide +kernel
theorem dX7_mark_18 : decode cX7_mark 18 = .ok (.aload_n 0, 1) := by decide +kernel
theorem dX7_mark_19 : decode cX7_mark 19 = .ok (.getfield 17, 3) := by decide +kernel
theorem dX7_mark_22 : decode cX7_mark 22 = .ok (.iconst 1, 1) := by decide +kernel
theorem dX7_mark_23 : decode cX7_mark 23 = .ok (.iaload, 1) := by decide +kernel
theorem dX7_mark_24 : decode cX7_mark 24 = .ok (.if_icmp .lt 26, 3) := by decide +kernel
theorem dX7_mark_27 : decode cX7_mark 27 = .ok (.aload_n 0, 1) := by decide +kernel
theorem dX7_mark_28 : decode cX7_mark 28 = .ok (.getfield 17, 3) := by decide +kernel
theorem dX7_mark_31 : decode cX7_mark 31 = .ok (.iload_n 1, 1) := by decide +kernel
theorem dX7_mark_32 : decode cX7_mark 32 = .ok (.invokestatic 175, 3) := by decide +kernel
theorem dX7_mark_35 : decode cX7_mark 35 = .ok (.ifCond .ne 15, 3) := by decide +kernel
theorem dX7_mark_38 : decode cX7_mark 38 = .ok (.aload_n 0, 1) := by decide +kernel
theorem dX7_mark_39 : decode cX7_mark 39 = .ok (.getfield 17, 3) := by decide +kernel
theorem dX7_mark_42 : decode cX7_mark 42 = .ok (.bipush 7, 2) := by decide +kernel
theorem dX7_mark_44 : decode cX7_mark 44 = .ok (.iaload, 1) := by decide +kernel
theorem dX7_mark_45 : decode cX7_mark 45 = .ok (.bipush 30, 2) := by decide +kernel
theorem dX7_mark_47 : decode cX7_mark 47 = .ok (.if_icmp .ne 7, 3) := by decide +kernel
theorem dX7_mark_54 : decode cX7_mark 54 = .ok (.iconst 0, 1) := by decide +kernel
theorem dX7_mark_55 : decode cX7_mark 55 = .ok (.putfield 71, 3) := by decide +kernel
theorem dX7_mark_58 : decode cX7_mark 58 = .ok (.aload_n 0, 1) := by decide +kernel
theorem dX7_mark_59 : decode cX7_mark 59 = .ok (.getfield 71, 3) := by decide +kernel
theorem dX7_mark_62 : decode cX7_mark 62 = .ok (.ifCond .le 5, 3) := by decide +kernel
theorem dX7_mark_65 : decode cX7_mark 65 = .ok (.iconst 0, 1) := by decide +kernel
theorem dX7_mark_66 : decode cX7_mark 66 = .ok (.ireturn, 1) := by decide +kernel
theorem dX7_mark_67 : decode cX7_mark 67 = .ok (.aload_n 0, 1) := by decide +kernel
theorem dX7_mark_68 : decode cX7_mark 68 = .ok (.invokevirtual 363, 3) := by decide +kernel
theorem dX7_mark_71 : decode cX7_mark 71 = .ok (.aload_n 0, 1) := by decide +kernel
theorem dX7_mark_72 : decode cX7_mark 72 = .ok (.getfield 17, 3) := by decide +kernel
theorem dX7_mark_75 : decode cX7_mark 75 = .ok (.sipush 1077, 3) := by decide +kernel
theorem dX7_mark_78 : decode cX7_mark 78 = .ok (.aload_n 0, 1) := by decide +kernel
theorem dX7_mark_79 : decode cX7_mark 79 = .ok (.getfield 17, 3) := by decide +kernel
theorem dX7_mark_82 : decode cX7_mark 82 = .ok (.bipush 7, 2) := by decide +kernel
theorem dX7_mark_84 : decode cX7_mark 84 = .ok (.iaload, 1) := by decide +kernel
theorem dX7_mark_85 : decode cX7_mark 85 = .ok (.iadd, 1) := by decide +kernel
theorem dX7_mark_86 : decode cX7_mark 86 = .ok (.iload_n 1, 1) := by decide +kernel
theorem dX7_mark_87 : decode cX7_mark 87 = .ok (.iastore, 1) := by decide +kernel
theorem dX7_mark_88 : decode cX7_mark 88 = .ok (.aload_n 0, 1) := by decide +kernel
theorem dX7_mark_89 : decode cX7_mark 89 = .ok (.getfield 17, 3) := by decide +kernel
theorem dX7_mark_92 : decode cX7_mark 92 = .ok (.bipush 7, 2) := by decide +kernel
theorem dX7_mark_94 : decode cX7_mark 94 = .ok (.dup2, 1) := by decide +kernel
theorem dX7_mark_95 : decode cX7_mark 95 = .ok (.iaload, 1) := by decide +kernel
theorem dX7_mark_96 : decode cX7_mark 96 = .ok (.iconst 1, 1) := by decide +kernel
theorem dX7_mark_97 : decode cX7_mark 97 = .ok (.iadd, 1) := by decide +kernel
theorem dX7_mark_98 : decode cX7_mark 98 = .ok (.iastore, 1) := by decide +kernel
theorem dX7_mark_99 : decode cX7_mark 99 = .ok (.aload_n 0, 1) := by decide +kernel
theorem dX7_mark_100 : decode cX7_mark 100 = .ok (.getfield 17, 3) := by decide +kernel
theorem dX7_mark_103 : decode cX7_mark 103 = .ok (.bipush 7, 2) := by decide +kernel
theorem dX7_mark_105 : decode cX7_mark 105 = .ok (.iaload, 1) := by decide +kernel
theorem dX7_mark_106 : decode cX7_mark 106 = .ok (.ireturn, 1) := by decide +kernel
theorem dX7_undo_0 : decode cX7_undo 0 = .ok (.aload_n 0, 1) := by decide +kernel
theorem dX7_undo_1 : decode cX7_undo 1 = .ok (.aload_n 0, 1) := by decide +kernel
theorem dX7_undo_2 : decode cX7_undo 2 = .ok (.getfield 205, 3) := by decide +kernel
theorem dX7_undo_5 : decode cX7_undo 5 = .ok (.ifCond .le 7, 3) := by decide +kernel
theorem dX7_undo_8 : decode cX7_undo 8 = .ok (.iconst 0, 1) := by decide +kernel
theorem dX7_undo_9 : decode cX7_undo 9 = .ok (.goto 4, 3) := by decide +kernel
theorem dX7_undo_12 : decode cX7_undo 12 = .ok (.iconst 1, 1) := by decide +kernel
theorem dX7_undo_13 : decode cX7_undo 13 = .ok (.putfield 71, 3) := by decide +kernel
theorem dX7_undo_16 : decode cX7_undo 16 = .ok (.aload_n 0, 1) := by decide +kernel
theorem dX7_undo_17 : decode cX7_undo 17 = .ok (.getfield 71, 3) := by decide +kernel
theorem dX7_undo_20 : decode cX7_undo 20 = .ok (.ifCond .le 5, 3) := by decide +kernel
theorem dX7_undo_23 : decode cX7_undo 23 = .ok (.iconst 0, 1) := by decide +kernel
theorem dX7_undo_24 : decode cX7_undo 24 = .ok (.ireturn, 1) := by decide +kernel
theorem dX7_save_0 : decode cX7_save 0 = .ok (.aload_n 0, 1) := by decide +kernel
theorem dX7_save_1 : decode cX7_save 1 = .ok (.iload_n 1, 1) := by decide +kernel
theorem dX7_save_2 : decode cX7_save 2 = .ok (.i2l, 1) := by decide +kernel
theorem dX7_save_3 : decode cX7_save 3 = .ok (.lconst 0, 1) := by decide +kernel
theorem dX7_save_4 : decode cX7_save 4 = .ok (.lconst 1, 1) := by decide +kernel
theorem dX7_save_5 : decode cX7_save 5 = .ok (.invokestatic 92, 3) := by decide +kernel
theorem dX7_save_8 : decode cX7_save 8 = .ok (.ifCond .eq 7, 3) := by decide +kernel
theorem dX7_save_11 : decode cX7_save 11 = .ok (.iconst 0, 1) := by decide +kernel
theorem dX7_save_12 : decode cX7_save 12 = .ok (.goto 4, 3) := by decide +kernel
theorem dX7_save_15 : decode cX7_save 15 = .ok (.iconst 1, 1) := by decide +kernel
theorem dX7_save_16 : decode cX7_save 16 = .ok (.putfield 71, 3) := by decide +kernel
theorem dX7_save_19 : decode cX7_save 19 = .ok (.aload_n 0, 1) := by decide +kernel
theorem dX7_save_20 : decode cX7_save 20 = .ok (.getfield 71, 3) := by decide +kernel
theorem dX7_save_23 : decode cX7_save 23 = .ok (.ifCond .le 4, 3) := by decide +kernel
theorem dX7_save_26 : decode cX7_save 26 = .ok (.return_, 1) := by decide +kernel
theorem dX7_save_27 : decode cX7_save 27 = .ok (.aload_n 0, 1) := by decide +kernel
theorem dX7_save_28 : decode cX7_save 28 = .ok (.getfield 17, 3) := by decide +kernel
theorem dX7_save_31 : decode cX7_save 31 = .ok (.iconst 0, 1) := by decide +kernel
theorem dX7_save_32 : decode cX7_save 32 = .ok (.aload_n 0, 1) := by decide +kernel
theorem dX7_save_33 : decode cX7_save 33 = .ok (.getfield 25, 3) := by decide +kernel
theorem dX7_save_36 : decode cX7_save 36 = .ok (.ldc 16, 2) := by decide +kernel
theorem dX7_save_38 : decode cX7_save 38 = .ok (.iload_n 1, 1) := by decide +kernel
theorem dX7_save_39 : decode cX7_save 39 = .ok (.imul, 1) := by decide +kernel
theorem dX7_save_40 : decode cX7_save 40 = .ok (.invokestatic 288, 3) := by decide +kernel
theorem dX7_save_43 : decode cX7_save 43 = .ok (.aload_n 0, 1) := by decide +kernel
theorem dX7_save_44 : decode cX7_save 44 = .ok (.getfield 31, 3) := by decide +kernel
theorem dX7_save_47 : decode cX7_save 47 = .ok (.iload_n 1, 1) := by decide +kernel
theorem dX7_save_48 : decode cX7_save 48 = .ok (.iconst 1, 1) := by decide +kernel
theorem dX7_save_49 : decode cX7_save 49 = .ok (.bastore, 1) := by decide +kernel
theorem dX7_save_50 : decode cX7_save 50 = .ok (.return_, 1) := by decide +kernel
theorem dX7_restore_0 : decode cX7_restore 0 = .ok (.aload_n 0, 1) := by decide +kernel
theorem dX7_restore_1 : decode cX7_restore 1 = .ok (.iload_n 1, 1) := by decide +kernel
theorem dX7_restore_2 : decode cX7_restore 2 = .ok (.i2l, 1) := by decide +kernel
theorem dX7_restore_3 : decode cX7_restore 3 = .ok (.lconst 0, 1) := by decide +kernel
theorem dX7_restore_4 : decode cX7_restore 4 = .ok (.lconst 1, 1) := by decide +kernel
theorem dX7_restore_5 : decode cX7_restore 5 = .ok (.invokestatic 92, 3) := by decide +kernel
theorem dX7_restore_8 : decode cX7_restore 8 = .ok (.ifCond .ne 7, 3) := by decide +kernel
theorem dX7_restore_11 : decode cX7_restore 11 = .ok (.iconst 1, 1) := by decide +kernel
theorem dX7_restore_12 : decode cX7_restore 12 = .ok (.goto 17, 3) := by decide +kernel
theorem dX7_restore_15 : decode cX7_restore 15 = .ok (.aload_n 0, 1) := by decide +kernel
theorem dX7_restore_16 : decode cX7_restore 16 = .ok (.getfield 31, 3) := by decide +kernel
theorem dX7_restore_19 : decode cX7_restore 19 = .ok (.iload_n 1, 1) := by decide +kernel
theorem dX7_restore_20 : decode cX7_restore 20 = .ok (.baload, 1) := by decide +kernel
theorem dX7_restore_21 : decode cX7_restore 21 = .ok (.ifCond .eq 7, 3) := by decide +kernel
theorem dX7_restore_24 : decode cX7_restore 24 = .ok (.iconst 0, 1) := by decide +kernel
theorem dX7_restore_25 : decode cX7_restore 25 = .ok (.goto 4, 3) := by decide +kernel
theorem dX7_restore_28 : decode cX7_restore 28 = .ok (.iconst 2, 1) := by decide +kernel
theorem dX7_restore_29 : decode cX7_restore 29 = .ok (.putfield 71, 3) := by decide +kernel
theorem dX7_restore_32 : decode cX7_restore 32 = .ok (.aload_n 0, 1) := by decide +kernel
theorem dX7_restore_33 : decode cX7_restore 33 = .ok (.getfield 71, 3) := by decide +kernel
theorem dX7_restore_36 : decode cX7_restore 36 = .ok (.ifCond .le 4, 3) := by decide +kernel
theorem dX7_restore_39 : decode cX7_restore 39 = .ok (.return_, 1) := by decide +kernel
theorem dJ6_compare_7cf53_0 : decode cJ6_compare_7cf53 0 = .ok (.iload_n 0, 1) := by decide +kernel
theorem dJ6_compare_7cf53_1 : decode cJ6_compare_7cf53 1 = .ok (.iload_n 1, 1) := by decide +kernel
theorem dJ6_compare_7cf53_2 : decode cJ6_compare_7cf53 2 = .ok (.if_icmp .ge 7, 3) := by decide +kernel
theorem dJ6_compare_7cf53_5 : decode cJ6_compare_7cf53 5 = .ok (.iconst (-1), 1) := by decide +kernel
theorem dJ6_compare_7cf53_6 : decode cJ6_compare_7cf53 6 = .ok (.goto 13, 3) := by decide +kernel
theorem dJ6_compare_7cf53_9 : decode cJ6_compare_7cf53 9 = .ok (.iload_n 0, 1) := by decide +kernel
theorem dJ6_compare_7cf53_10 : decode cJ6_compare_7cf53 10 = .ok (.iload_n 1, 1) := by decide +kernel
theorem dJ6_compare_7cf53_11 : decode cJ6_compare_7cf53 11 = .ok (.if_icmp .ne 7, 3) := by decide +kernel
theorem dJ6_compare_7cf53_14 : decode cJ6_compare_7cf53 14 = .ok (.iconst 0, 1) := by decide +kernel
theorem dJ6_compare_7cf53_15 : decode cJ6_compare_7cf53 15 = .ok (.goto 4, 3) := by decide +kernel
theorem dJ6_compare_7cf53_18 : decode cJ6_compare_7cf53 18 = .ok (.iconst 1, 1) := by decide +kernel
theorem dJ6_compare_7cf53_19 : decode cJ6_compare_7cf53 19 = .ok (.ireturn, 1) := by decide +kernel
theorem dL_append_0 : decode cL_append 0 = .ok (.aload 6, 2) := by decide +kernel
theorem dL_append_2 : decode cL_append 2 = .ok (.iconst 0, 1) := by decide +kernel
theorem dL_append_3 : decode cL_append 3 = .ok (.aload_n 0, 1) := by decide +kernel
theorem dL_append_4 : decode cL_append 4 = .ok (.iload_n 1, 1) := by decide +kernel
theorem dL_append_5 : decode cL_append 5 = .ok (.iload_n 2, 1) := by decide +kernel
theorem dL_append_6 : decode cL_append 6 = .ok (.iload_n 3, 1) := by decide +kernel
theorem dL_append_7 : decode cL_append 7 = .ok (.iload 4, 2) := by decide +kernel
theorem dL_append_9 : decode cL_append 9 = .ok (.iload 5, 2) := by decide +kernel
theorem dL_append_11 : decode cL_append 11 = .ok (.invokevirtual 7, 3) := by decide +kernel
theorem dL_append_14 : decode cL_append 14 = .ok (.i2l, 1) := by decide +kernel
theorem dL_append_15 : decode cL_append 15 = .ok (.lastore, 1) := by decide +kernel
theorem dL_append_16 : decode cL_append 16 = .ok (.goto 7, 3) := by decide +kernel
theorem dL_append_23 : decode cL_append 23 = .ok (.iconst 0, 1) := by decide +kernel
theorem dL_append_24 : decode cL_append 24 = .ok (.ireturn, 1) := by decide +kernel
theorem dL_truncate_0 : decode cL_truncate 0 = .ok (.aload_n 2, 1) := by decide +kernel
theorem dL_truncate_1 : decode cL_truncate 1 = .ok (.iconst 0, 1) := by decide +kernel
theorem dL_truncate_2 : decode cL_truncate 2 = .ok (.aload_n 0, 1) := by decide +kernel
theorem dL_truncate_3 : decode cL_truncate 3 = .ok (.iload_n 1, 1) := by decide +kernel
theorem dL_truncate_4 : decode cL_truncate 4 = .ok (.invokevirtual 15, 3) := by decide +kernel
theorem dL_truncate_7 : decode cL_truncate 7 = .ok (.i2l, 1) := by decide +kernel
theorem dL_truncate_8 : decode cL_truncate 8 = .ok (.lastore, 1) := by decide +kernel
theorem dL_truncate_9 : decode cL_truncate 9 = .ok (.goto 6, 3) := by decide +kernel
theorem dL_truncate_12 : decode cL_truncate 12 = .ok (.astore_n 3, 1) := by decide +kernel
theorem dL_truncate_13 : decode cL_truncate 13 = .ok (.iconst 1, 1) := by decide +kernel
theorem dL_truncate_14 : decode cL_truncate 14 = .ok (.ireturn, 1) := by decide +kernel
theorem dL_truncate_15 : decode cL_truncate 15 = .ok (.iconst 0, 1) := by decide +kernel
theorem dL_truncate_16 : decode cL_truncate 16 = .ok (.ireturn, 1) := by decide +kernel
theorem dL_load_0 : decode cL_load 0 = .ok (.aload_n 1, 1) := by decide +kernel
theorem dL_load_1 : decode cL_load 1 = .ok (.iconst 0, 1) := by decide +kernel
theorem dL_load_2 : decode cL_load 2 = .ok (.aload_n 0, 1) := by decide +kernel
theorem dL_load_3 : decode cL_load 3 = .ok (.invokevirtual 21, 3) := by decide +kernel
theorem dL_load_6 : decode cL_load 6 = .ok (.i2l, 1) := by decide +kernel
theorem dL_load_7 : decode cL_load 7 = .ok (.lastore, 1) := by decide +kernel
theorem dL_load_8 : decode cL_load 8 = .ok (.goto 6, 3) := by decide +kernel
theorem dL_load_11 : decode cL_load 11 = .ok (.astore_n 2, 1) := by decide +kernel
theorem dL_load_12 : decode cL_load 12 = .ok (.iconst 1, 1) := by decide +kernel
theorem dL_load_13 : decode cL_load 13 = .ok (.ireturn, 1) := by decide +kernel
theorem dL_find_0 : decode cL_find 0 = .ok (.aload_n 2, 1) := by decide +kernel
theorem dL_find_1 : decode cL_find 1 = .ok (.iconst 0, 1) := by decide +kernel
theorem dL_find_2 : decode cL_find 2 = .ok (.aload_n 0, 1) := by decide +kernel
theorem dL_find_3 : decode cL_find 3 = .ok (.iload_n 1, 1) := by decide +kernel
theorem dL_find_4 : decode cL_find 4 = .ok (.invokevirtual 27, 3) := by decide +kernel
theorem dL_find_7 : decode cL_find 7 = .ok (.i2l, 1) := by decide +kernel
theorem dL_find_8 : decode cL_find 8 = .ok (.lastore, 1) := by decide +kernel
theorem dL_find_9 : decode cL_find 9 = .ok (.goto 9, 3) := by decide +kernel
theorem dL_find_12 : decode cL_find 12 = .ok (.astore_n 3, 1) := by decide +kernel
theorem dL_find_13 : decode cL_find 13 = .ok (.iconst 1, 1) := by decide +kernel
theorem dL_find_14 : decode cL_find 14 = .ok (.ireturn, 1) := by decide +kernel
theorem dL_find_15 : decode cL_find 15 = .ok (.astore_n 3, 1) := by decide +kernel
theorem dL_find_16 : decode cL_find 16 = .ok (.iconst 2, 1) := by decide +kernel
theorem dL_find_17 : decode cL_find 17 = .ok (.ireturn, 1) := by decide +kernel
theorem dL_count_0 : decode cL_count 0 = .ok (.aload_n 2, 1) := by decide +kernel
theorem dL_count_1 : decode cL_count 1 = .ok (.iconst 0, 1) := by decide +kernel
theorem dL_count_2 : decode cL_count 2 = .ok (.aload_n 0, 1) := by decide +kernel
theorem dL_count_3 : decode cL_count 3 = .ok (.iload_n 1, 1) := by decide +kernel
theorem dL_count_4 : decode cL_count 4 = .ok (.invokevirtual 32, 3) := by decide +kernel
theorem dL_count_7 : decode cL_count 7 = .ok (.i2l, 1) := by decide +kernel
theorem dL_count_8 : decode cL_count 8 = .ok (.lastore, 1) := by decide +kernel
theorem dL_count_9 : decode cL_count 9 = .ok (.goto 6, 3) := by decide +kernel
theorem dL_count_12 : decode cL_count 12 = .ok (.astore_n 3, 1) := by decide +kernel
theorem dL_count_13 : decode cL_count 13 = .ok (.iconst 1, 1) := by decide +kernel
theorem dL_count_14 : decode cL_count 14 = .ok (.ireturn, 1) := by decide +kernel
theorem dL_count_15 : decode cL_count 15 = .ok (.iconst 0, 1) := by decide +kernel
theorem dL_count_16 : decode cL_count 16 = .ok (.ireturn, 1) := by decide +kernel
theorem dL_host_0 : decode cL_host 0 = .ok (.aload_n 3, 1) := by decide +kernel
theorem dL_host_1 : decode cL_host 1 = .ok (.iconst 0, 1) := by decide +kernel
theorem dL_host_2 : decode cL_host 2 = .ok (.aload_n 0, 1) := by decide +kernel
theorem dL_host_3 : decode cL_host 3 = .ok (.iload_n 1, 1) := by decide +kernel
theorem dL_host_4 : decode cL_host 4 = .ok (.iload_n 2, 1) := by decide +kernel
theorem dL_host_5 : decode cL_host 5 = .ok (.invokevirtual 35, 3) := by decide +kernel
theorem dL_host_8 : decode cL_host 8 = .ok (.i2l, 1) := by decide +kernel
theorem dL_host_9 : decode cL_host 9 = .ok (.lastore, 1) := by decide +kernel
theorem dL_host_10 : decode cL_host 10 = .ok (.goto 11, 3) := by decide +kernel
theorem dL_host_13 : decode cL_host 13 = .ok (.astore 4, 2) := by decide +kernel
theorem dL_host_15 : decode cL_host 15 = .ok (.iconst 1, 1) := by decide +kernel
theorem dL_host_16 : decode cL_host 16 = .ok (.ireturn, 1) := by decide +kernel
theorem dL_host_17 : decode cL_host 17 = .ok (.astore 4, 2) := by decide +kernel
theorem dL_host_19 : decode cL_host 19 = .ok (.iconst 2, 1) := by decide +kernel
theorem dL_host_20 : decode cL_host 20 = .ok (.ireturn, 1) := by decide +kernel
theorem dL_host_21 : decode cL_host 21 = .ok (.iconst 0, 1) := by decide +kernel
theorem dL_host_22 : decode cL_host 22 = .ok (.ireturn, 1) := by decide +kernel
theorem dL_service_0 : decode cL_service 0 = .ok (.aload_n 3, 1) := by decide +kernel
theorem dL_service_1 : decode cL_service 1 = .ok (.iconst 0, 1) := by decide +kernel
theorem dL_service_2 : decode cL_service 2 = .ok (.aload_n 0, 1) := by decide +kernel
theorem dL_service_3 : decode cL_service 3 = .ok (.iload_n 1, 1) := by decide +kernel
theorem dL_service_4 : decode cL_service 4 = .ok (.iload_n 2, 1) := by decide +kernel
theorem dL_service_5 : decode cL_service 5 = .ok (.invokevirtual 39, 3) := by decide +kernel
theorem dL_service_8 : decode cL_service 8 = .ok (.i2l, 1) := by decide +kernel
theorem dL_service_9 : decode cL_service 9 = .ok (.lastore, 1) := by decide +kernel
theorem dL_service_10 : decode cL_service 10 = .ok (.goto 11, 3) := by decide +kernel
theorem dL_service_13 : decode cL_service 13 = .ok (.astore 4, 2) := by decide +kernel
theorem dL_service_15 : decode cL_service 15 = .ok (.iconst 1, 1) := by decide +kernel
theorem dL_service_16 : decode cL_service 16 = .ok (.ireturn, 1) := by decide +kernel
theorem dL_service_17 : decode cL_service 17 = .ok (.astore 4, 2) := by decide +kernel
theorem dL_service_19 : decode cL_service 19 = .ok (.iconst 2, 1) := by decide +kernel
theorem dL_service_20 : decode cL_service 20 = .ok (.ireturn, 1) := by decide +kernel
theorem dL_service_21 : decode cL_service 21 = .ok (.iconst 0, 1) := by decide +kernel
theorem dL_service_22 : decode cL_service 22 = .ok (.ireturn, 1) := by decide +kernel
theorem dL_baseByte_0 : decode cL_baseByte 0 = .ok (.aload_n 3, 1) := by decide +kernel
theorem dL_baseByte_1 : decode cL_baseByte 1 = .ok (.iconst 0, 1) := by decide +kernel
theorem dL_baseByte_2 : decode cL_baseByte 2 = .ok (.aload_n 0, 1) := by decide +kernel
theorem dL_baseByte_3 : decode cL_baseByte 3 = .ok (.iload_n 1, 1) := by decide +kernel
theorem dL_baseByte_4 : decode cL_baseByte 4 = .ok (.iload_n 2, 1) := by decide +kernel
theorem dL_baseByte_5 : decode cL_baseByte 5 = .ok (.invokevirtual 42, 3) := by decide +kernel
theorem dL_baseByte_8 : decode cL_baseByte 8 = .ok (.i2l, 1) := by decide +kernel
theorem dL_baseByte_9 : decode cL_baseByte 9 = .ok (.lastore, 1) := by decide +kernel
theorem dL_baseByte_10 : decode cL_baseByte 10 = .ok (.goto 7, 3) := by decide +kernel
theorem dL_baseByte_13 : decode cL_baseByte 13 = .ok (.astore 4, 2) := by decide +kernel
theorem dL_baseByte_15 : decode cL_baseByte 15 = .ok (.iconst 1, 1) := by decide +kernel
theorem dL_baseByte_16 : decode cL_baseByte 16 = .ok (.ireturn, 1) := by decide +kernel
theorem dL_baseByte_17 : decode cL_baseByte 17 = .ok (.iconst 0, 1) := by decide +kernel
theorem dL_baseByte_18 : decode cL_baseByte 18 = .ok (.ireturn, 1) := by decide +kernel
theorem dL_haveSameName_0 : decode cL_haveSameName 0 = .ok (.aload_n 3, 1) := by decide +kernel
theorem dL_haveSameName_1 : decode cL_haveSameName 1 = .ok (.iconst 0, 1) := by decide +kernel
theorem dL_haveSameName_2 : decode cL_haveSameName 2 = .ok (.aload_n 0, 1) := by decide +kernel
theorem dL_haveSameName_3 : decode cL_haveSameName 3 = .ok (.iload_n 1, 1) := by decide +kernel
theorem dL_haveSameName_4 : decode cL_haveSameName 4 = .ok (.iload_n 2, 1) := by decide +kernel
theorem dL_haveSameName_5 : decode cL_haveSameName 5 = .ok (.invokevirtual 45, 3) := by decide +kernel
theorem dL_haveSameName_8 : decode cL_haveSameName 8 = .ok (.ifCond .eq 7, 3) := by decide +kernel
theorem dL_haveSameName_11 : decode cL_haveSameName 11 = .ok (.lconst 1, 1) := by decide +kernel
theorem dL_haveSameName_12 : decode cL_haveSameName 12 = .ok (.goto 4, 3) := by decide +kernel
theorem dL_haveSameName_16 : decode cL_haveSameName 16 = .ok (.lastore, 1) := by decide +kernel
theorem dL_haveSameName_17 : decode cL_haveSameName 17 = .ok (.goto 7, 3) := by decide +kernel
theorem dL_haveSameName_20 : decode cL_haveSameName 20 = .ok (.astore 4, 2) := by decide +kernel
theorem dL_haveSameName_22 : decode cL_haveSameName 22 = .ok (.iconst 1, 1) := by decide +kernel
theorem dL_haveSameName_23 : decode cL_haveSameName 23 = .ok (.ireturn, 1) := by decide +kernel
theorem dL_haveSameName_24 : decode cL_haveSameName 24 = .ok (.iconst 0, 1) := by decide +kernel
theorem dL_haveSameName_25 : decode cL_haveSameName 25 = .ok (.ireturn, 1) := by decide +kernel
theorem dL_record_0 : decode cL_record 0 = .ok (.aload 4, 2) := by decide +kernel
theorem dL_record_2 : decode cL_record 2 = .ok (.iconst 0, 1) := by decide +kernel
theorem dL_record_3 : decode cL_record 3 = .ok (.aload_n 0, 1) := by decide +kernel
theorem dL_record_4 : decode cL_record 4 = .ok (.iload_n 1, 1) := by decide +kernel
theorem dL_record_5 : decode cL_record 5 = .ok (.iload_n 2, 1) := by decide +kernel
theorem dL_record_6 : decode cL_record 6 = .ok (.iload_n 3, 1) := by decide +kernel
theorem dL_record_7 : decode cL_record 7 = .ok (.invokevirtual 49, 3) := by decide +kernel
theorem dL_record_10 : decode cL_record 10 = .ok (.i2l, 1) := by decide +kernel
theorem dL_record_11 : decode cL_record 11 = .ok (.lastore, 1) := by decide +kernel
theorem dL_record_12 : decode cL_record 12 = .ok (.goto 11, 3) := by decide +kernel
theorem dL_record_15 : decode cL_record 15 = .ok (.astore 5, 2) := by decide +kernel
theorem dL_record_17 : decode cL_record 17 = .ok (.iconst 1, 1) := by decide +kernel
theorem dL_record_18 : decode cL_record 18 = .ok (.ireturn, 1) := by decide +kernel
theorem dL_recordByte_0 : decode cL_recordByte 0 = .ok (.aload 4, 2) := by decide +kernel
theorem dL_recordByte_2 : decode cL_recordByte 2 = .ok (.iconst 0, 1) := by decide +kernel
theorem dL_recordByte_3 : decode cL_recordByte 3 = .ok (.aload_n 0, 1) := by decide +kernel
theorem dL_recordByte_4 : decode cL_recordByte 4 = .ok (.iload_n 1, 1) := by decide +kernel
theorem dL_recordByte_5 : decode cL_recordByte 5 = .ok (.iload_n 2, 1) := by decide +kernel
theorem dL_recordByte_6 : decode cL_recordByte 6 = .ok (.iload_n 3, 1) := by decide +kernel
theorem dL_recordByte_7 : decode cL_recordByte 7 = .ok (.invokevirtual 53, 3) := by decide +kernel
theorem dL_recordByte_10 : decode cL_recordByte 10 = .ok (.i2l, 1) := by decide +kernel
theorem dL_recordByte_11 : decode cL_recordByte 11 = .ok (.lastore, 1) := by decide +kernel
theorem dL_recordByte_12 : decode cL_recordByte 12 = .ok (.goto 7, 3) := by decide +kernel
theorem dL_recordByte_15 : decode cL_recordByte 15 = .ok (.astore 5, 2) := by decide +kernel
theorem dL_recordByte_17 : decode cL_recordByte 17 = .ok (.iconst 1, 1) := by decide +kernel
theorem dL_recordByte_18 : decode cL_recordByte 18 = .ok (.ireturn, 1) := by decide +kernel
theorem dL_browser_0 : decode cL_browser 0 = .ok (.aload 4, 2) := by decide +kernel
theorem dL_browser_2 : decode cL_browser 2 = .ok (.iconst 0, 1) := by decide +kernel
theorem dL_browser_3 : decode cL_browser 3 = .ok (.aload_n 0, 1) := by decide +kernel
theorem dL_browser_4 : decode cL_browser 4 = .ok (.iload_n 1, 1) := by decide +kernel
theorem dL_browser_5 : decode cL_browser 5 = .ok (.iload_n 2, 1) := by decide +kernel
theorem dL_browser_6 : decode cL_browser 6 = .ok (.iload_n 3, 1) := by decide +kernel
theorem dL_browser_7 : decode cL_browser 7 = .ok (.invokevirtual 56, 3) := by decide +kernel
theorem dL_browser_10 : decode cL_browser 10 = .ok (.i2l, 1) := by decide +kernel
theorem dL_browser_11 : decode cL_browser 11 = .ok (.lastore, 1) := by decide +kernel
theorem dL_browser_12 : decode cL_browser 12 = .ok (.goto 11, 3) := by decide +kernel
theorem dL_browser_15 : decode cL_browser 15 = .ok (.astore 5, 2) := by decide +kernel
theorem dL_browser_17 : decode cL_browser 17 = .ok (.iconst 1, 1) := by decide +kernel
theorem dL_browser_18 : decode cL_browser 18 = .ok (.ireturn, 1) := by decide +kernel
theorem dL_browser_19 : decode cL_browser 19 = .ok (.astore 5, 2) := by decide +kernel
theorem dL_browser_21 : decode cL_browser 21 = .ok (.iconst 2, 1) := by decide +kernel
theorem dL_browser_22 : decode cL_browser 22 = .ok (.ireturn, 1) := by decide +kernel
theorem dL_browser_23 : decode cL_browser 23 = .ok (.iconst 0, 1) := by decide +kernel
theorem dL_browser_24 : decode cL_browser 24 = .ok (.ireturn, 1) := by decide +kernel
theorem dL_message_0 : decode cL_message 0 = .ok (.aload_n 3, 1) := by decide +kernel
theorem dL_message_1 : decode cL_message 1 = .ok (.iconst 0, 1) := by decide +kernel
theorem dL_message_2 : decode cL_message 2 = .ok (.aload_n 0, 1) := by decide +kernel
theorem dL_message_3 : decode cL_message 3 = .ok (.iload_n 1, 1) := by decide +kernel
theorem dL_message_4 : decode cL_message 4 = .ok (.iload_n 2, 1) := by decide +kernel
theorem dL_message_5 : decode cL_message 5 = .ok (.invokevirtual 59, 3) := by decide +kernel
theorem dL_message_8 : decode cL_message 8 = .ok (.i2l, 1) := by decide +kernel
theorem dL_message_9 : decode cL_message 9 = .ok (.lastore, 1) := by decide +kernel
theorem dL_message_10 : decode cL_message 10 = .ok (.goto 11, 3) := by decide +kernel
theorem dL_message_13 : decode cL_message 13 = .ok (.astore 4, 2) := by decide +kernel
theorem dL_message_15 : decode cL_message 15 = .ok (.iconst 1, 1) := by decide +kernel
theorem dL_message_16 : decode cL_message 16 = .ok (.ireturn, 1) := by decide +kernel
theorem dL_isMarked_0 : decode cL_isMarked 0 = .ok (.aload_n 2, 1) := by decide +kernel
theorem dL_isMarked_1 : decode cL_isMarked 1 = .ok (.iconst 0, 1) := by decide +kernel
theorem dL_isMarked_2 : decode cL_isMarked 2 = .ok (.aload_n 0, 1) := by decide +kernel
theorem dL_isMarked_3 : decode cL_isMarked 3 = .ok (.iload_n 1, 1) := by decide +kernel
theorem dL_isMarked_4 : decode cL_isMarked 4 = .ok (.invokevirtual 62, 3) := by decide +kernel
theorem dL_isMarked_7 : decode cL_isMarked 7 = .ok (.ifCond .eq 7, 3) := by decide +kernel
theorem dL_isMarked_10 : decode cL_isMarked 10 = .ok (.lconst 1, 1) := by decide +kernel
theorem dL_isMarked_11 : decode cL_isMarked 11 = .ok (.goto 4, 3) := by decide +kernel
