theorem dX6_count_157 : decode cX6_count 157 = .ok (.getfield 24, 3) := by decide +kernel
theorem dX6_count_160 : decode cX6_count 160 = .ok (.invokevirtual 160, 3) := by decide +kernel
theorem dX6_count_163 : decode cX6_count 163 = .ok (.ireturn, 1) := by decide +kernel
theorem dX6_count_164 : decode cX6_count 164 = .ok (.aload_n 0, 1) := by decide +kernel
theorem dX6_count_165 : decode cX6_count 165 = .ok (.getfield 34, 3) := by decide +kernel
theorem dX6_count_168 : decode cX6_count 168 = .ok (.invokevirtual 163, 3) := by decide +kernel
theorem dX6_count_171 : decode cX6_count 171 = .ok (.ireturn, 1) := by decide +kernel
theorem dX6_count_172 : decode cX6_count 172 = .ok (.new 95, 3) := by decide +kernel
theorem dX6_count_175 : decode cX6_count 175 = .ok (.dup, 1) := by decide +kernel
theorem dX6_count_176 : decode cX6_count 176 = .ok (.ldc 164, 2) := by decide +kernel
theorem dX6_count_178 : decode cX6_count 178 = .ok (.invokespecial 99, 3) := by decide +kernel
theorem dX6_count_181 : decode cX6_count 181 = .ok (.athrow, 1) := by decide +kernel
theorem dX6_host_0 : decode cX6_host 0 = .ok (.aload_n 0, 1) := by decide +kernel
theorem dX6_host_1 : decode cX6_host 1 = .ok (.iload_n 1, 1) := by decide +kernel
theorem dX6_host_2 : decode cX6_host 2 = .ok (.invokevirtual 166, 3) := by decide +kernel
theorem dX6_host_5 : decode cX6_host 5 = .ok (.iload_n 2, 1) := by decide +kernel
theorem dX6_host_6 : decode cX6_host 6 = .ok (.tableswitch 111 0 5 #[38, 55, 68, 77, 89, 98], 38) := by decide +kernel
theorem dX6_host_44 : decode cX6_host 44 = .ok (.aload_n 0, 1) := by decide +kernel
theorem dX6_host_45 : decode cX6_host 45 = .ok (.getfield 24, 3) := by decide +kernel
theorem dX6_host_48 : decode cX6_host 48 = .ok (.iload_n 1, 1) := by decide +kernel
theorem dX6_host_49 : decode cX6_host 49 = .ok (.invokevirtual 169, 3) := by decide +kernel
theorem dX6_host_52 : decode cX6_host 52 = .ok (.ifCond .eq 7, 3) := by decide +kernel
theorem dX6_host_55 : decode cX6_host 55 = .ok (.iconst 1, 1) := by decide +kernel
theorem dX6_host_56 : decode cX6_host 56 = .ok (.goto 4, 3) := by decide +kernel
theorem dX6_host_60 : decode cX6_host 60 = .ok (.ireturn, 1) := by decide +kernel
theorem dX6_host_61 : decode cX6_host 61 = .ok (.aload_n 0, 1) := by decide +kernel
theorem dX6_host_62 : decode cX6_host 62 = .ok (.getfield 24, 3) := by decide +kernel
theorem dX6_host_65 : decode cX6_host 65 = .ok (.getfield 119, 3) := by decide +kernel
theorem dX6_host_68 : decode cX6_host 68 = .ok (.iload_n 1, 1) := by decide +kernel
theorem dX6_host_69 : decode cX6_host 69 = .ok (.iconst 2, 1) := by decide +kernel
theorem dX6_host_70 : decode cX6_host 70 = .ok (.invokevirtual 173, 3) := by decide +kernel
theorem dX6_host_73 : decode cX6_host 73 = .ok (.ireturn, 1) := by decide +kernel
theorem dX6_host_74 : decode cX6_host 74 = .ok (.aload_n 0, 1) := by decide +kernel
theorem dX6_host_75 : decode cX6_host 75 = .ok (.getfield 24, 3) := by decide +kernel
theorem dX6_host_78 : decode cX6_host 78 = .ok (.iload_n 1, 1) := by decide +kernel
theorem dX6_host_79 : decode cX6_host 79 = .ok (.invokevirtual 176, 3) := by decide +kernel
theorem dX6_host_82 : decode cX6_host 82 = .ok (.ireturn, 1) := by decide +kernel
theorem dX6_host_83 : decode cX6_host 83 = .ok (.aload_n 0, 1) := by decide +kernel
theorem dX6_host_84 : decode cX6_host 84 = .ok (.getfield 24, 3) := by decide +kernel
theorem dX6_host_87 : decode cX6_host 87 = .ok (.iload_n 1, 1) := by decide +kernel
theorem dX6_host_88 : decode cX6_host 88 = .ok (.invokevirtual 180, 3) := by decide +kernel
theorem dX6_host_91 : decode cX6_host 91 = .ok (.invokevirtual 111, 3) := by decide +kernel
theorem dX6_host_94 : decode cX6_host 94 = .ok (.ireturn, 1) := by decide +kernel
theorem dX6_host_95 : decode cX6_host 95 = .ok (.aload_n 0, 1) := by decide +kernel
theorem dX6_host_96 : decode cX6_host 96 = .ok (.getfield 24, 3) := by decide +kernel
theorem dX6_host_99 : decode cX6_host 99 = .ok (.iload_n 1, 1) := by decide +kernel
theorem dX6_host_100 : decode cX6_host 100 = .ok (.invokevirtual 184, 3) := by decide +kernel
theorem dX6_host_103 : decode cX6_host 103 = .ok (.ireturn, 1) := by decide +kernel
theorem dX6_host_104 : decode cX6_host 104 = .ok (.aload_n 0, 1) := by decide +kernel
theorem dX6_host_105 : decode cX6_host 105 = .ok (.getfield 24, 3) := by decide +kernel
theorem dX6_host_108 : decode cX6_host 108 = .ok (.getfield 119, 3) := by decide +kernel
theorem dX6_host_111 : decode cX6_host 111 = .ok (.iload_n 1, 1) := by decide +kernel
theorem dX6_host_112 : decode cX6_host 112 = .ok (.iconst 3, 1) := by decide +kernel
theorem dX6_host_113 : decode cX6_host 113 = .ok (.invokevirtual 173, 3) := by decide +kernel
theorem dX6_host_116 : decode cX6_host 116 = .ok (.ireturn, 1) := by decide +kernel
theorem dX6_host_117 : decode cX6_host 117 = .ok (.new 95, 3) := by decide +kernel
theorem dX6_host_120 : decode cX6_host 120 = .ok (.dup, 1) := by decide +kernel
theorem dX6_host_121 : decode cX6_host 121 = .ok (.ldc 187, 2) := by decide +kernel
theorem dX6_host_123 : decode cX6_host 123 = .ok (.invokespecial 99, 3) := by decide +kernel
theorem dX6_host_126 : decode cX6_host 126 = .ok (.athrow, 1) := by decide +kernel
theorem dX6_service_0 : decode cX6_service 0 = .ok (.aload_n 0, 1) := by decide +kernel
theorem dX6_service_1 : decode cX6_service 1 = .ok (.iload_n 1, 1) := by decide +kernel
theorem dX6_service_2 : decode cX6_service 2 = .ok (.invokevirtual 189, 3) := by decide +kernel
theorem dX6_service_5 : decode cX6_service 5 = .ok (.iload_n 2, 1) := by decide +kernel
theorem dX6_service_6 : decode cX6_service 6 = .ok (.tableswitch 207 0 10 #[58, 71, 84, 97, 110, 123, 137, 151, 165, 179, 193], 58) := by decide +kernel
theorem dX6_service_64 : decode cX6_service 64 = .ok (.aload_n 0, 1) := by decide +kernel
theorem dX6_service_65 : decode cX6_service 65 = .ok (.getfield 24, 3) := by decide +kernel
theorem dX6_service_68 : decode cX6_service 68 = .ok (.getfield 107, 3) := by decide +kernel
theorem dX6_service_71 : decode cX6_service 71 = .ok (.iload_n 1, 1) := by decide +kernel
theorem dX6_service_72 : decode cX6_service 72 = .ok (.iconst 0, 1) := by decide +kernel
theorem dX6_service_73 : decode cX6_service 73 = .ok (.invokevirtual 173, 3) := by decide +kernel
theorem dX6_service_76 : decode cX6_service 76 = .ok (.ireturn, 1) := by decide +kernel
theorem dX6_service_77 : decode cX6_service 77 = .ok (.aload_n 0, 1) := by decide +kernel
theorem dX6_service_78 : decode cX6_service 78 = .ok (.getfield 24, 3) := by decide +kernel
theorem dX6_service_81 : decode cX6_service 81 = .ok (.getfield 107, 3) := by decide +kernel
theorem dX6_service_84 : decode cX6_service 84 = .ok (.iload_n 1, 1) := by decide +kernel
theorem dX6_service_85 : decode cX6_service 85 = .ok (.iconst 1, 1) := by decide +kernel
theorem dX6_service_86 : decode cX6_service 86 = .ok (.invokevirtual 173, 3) := by decide +kernel
theorem dX6_service_89 : decode cX6_service 89 = .ok (.ireturn, 1) := by decide +kernel
theorem dX6_service_90 : decode cX6_service 90 = .ok (.aload_n 0, 1) := by decide +kernel
theorem dX6_service_91 : decode cX6_service 91 = .ok (.getfield 24, 3) := by decide +kernel
theorem dX6_service_94 : decode cX6_service 94 = .ok (.getfield 107, 3) := by decide +kernel
theorem dX6_service_97 : decode cX6_service 97 = .ok (.iload_n 1, 1) := by decide +kernel
theorem dX6_service_98 : decode cX6_service 98 = .ok (.iconst 2, 1) := by decide +kernel
theorem dX6_service_99 : decode cX6_service 99 = .ok (.invokevirtual 173, 3) := by decide +kernel
theorem dX6_service_102 : decode cX6_service 102 = .ok (.ireturn, 1) := by decide +kernel
theorem dX6_service_103 : decode cX6_service 103 = .ok (.aload_n 0, 1) := by decide +kernel
theorem dX6_service_104 : decode cX6_service 104 = .ok (.getfield 24, 3) := by decide +kernel
theorem dX6_service_107 : decode cX6_service 107 = .ok (.getfield 107, 3) := by decide +kernel
theorem dX6_service_110 : decode cX6_service 110 = .ok (.iload_n 1, 1) := by decide +kernel
theorem dX6_service_111 : decode cX6_service 111 = .ok (.iconst 3, 1) := by decide +kernel
theorem dX6_service_112 : decode cX6_service 112 = .ok (.invokevirtual 173, 3) := by decide +kernel
theorem dX6_service_115 : decode cX6_service 115 = .ok (.ireturn, 1) := by decide +kernel
theorem dX6_service_116 : decode cX6_service 116 = .ok (.aload_n 0, 1) := by decide +kernel
theorem dX6_service_117 : decode cX6_service 117 = .ok (.getfield 24, 3) := by decide +kernel
theorem dX6_service_120 : decode cX6_service 120 = .ok (.getfield 107, 3) := by decide +kernel
theorem dX6_service_123 : decode cX6_service 123 = .ok (.iload_n 1, 1) := by decide +kernel
theorem dX6_service_124 : decode cX6_service 124 = .ok (.iconst 4, 1) := by decide +kernel
theorem dX6_service_125 : decode cX6_service 125 = .ok (.invokevirtual 173, 3) := by decide +kernel
theorem dX6_service_128 : decode cX6_service 128 = .ok (.ireturn, 1) := by decide +kernel
theorem dX6_service_129 : decode cX6_service 129 = .ok (.aload_n 0, 1) := by decide +kernel
theorem dX6_service_130 : decode cX6_service 130 = .ok (.getfield 24, 3) := by decide +kernel
theorem dX6_service_133 : decode cX6_service 133 = .ok (.getfield 107, 3) := by decide +kernel
theorem dX6_service_136 : decode cX6_service 136 = .ok (.iload_n 1, 1) := by decide +kernel
theorem dX6_service_137 : decode cX6_service 137 = .ok (.bipush 6, 2) := by decide +kernel
theorem dX6_service_139 : decode cX6_service 139 = .ok (.invokevirtual 173, 3) := by decide +kernel
theorem dX6_service_142 : decode cX6_service 142 = .ok (.ireturn, 1) := by decide +kernel
theorem dX6_service_143 : decode cX6_service 143 = .ok (.aload_n 0, 1) := by decide +kernel
theorem dX6_service_144 : decode cX6_service 144 = .ok (.getfield 24, 3) := by decide +kernel
theorem dX6_service_147 : decode cX6_service 147 = .ok (.getfield 107, 3) := by decide +kernel
theorem dX6_service_150 : decode cX6_service 150 = .ok (.iload_n 1, 1) := by decide +kernel
theorem dX6_service_151 : decode cX6_service 151 = .ok (.bipush 7, 2) := by decide +kernel
theorem dX6_service_153 : decode cX6_service 153 = .ok (.invokevirtual 173, 3) := by decide +kernel
theorem dX6_service_156 : decode cX6_service 156 = .ok (.ireturn, 1) := by decide +kernel
theorem dX6_service_157 : decode cX6_service 157 = .ok (.aload_n 0, 1) := by decide +kernel
theorem dX6_service_158 : decode cX6_service 158 = .ok (.getfield 24, 3) := by decide +kernel
theorem dX6_service_161 : decode cX6_service 161 = .ok (.getfield 107, 3) := by decide +kernel
theorem dX6_service_164 : decode cX6_service 164 = .ok (.iload_n 1, 1) := by decide +kernel
theorem dX6_service_165 : decode cX6_service 165 = .ok (.bipush 8, 2) := by decide +kernel
theorem dX6_service_167 : decode cX6_service 167 = .ok (.invokevirtual 173, 3) := by decide +kernel
theorem dX6_service_170 : decode cX6_service 170 = .ok (.ireturn, 1) := by decide +kernel
theorem dX6_service_171 : decode cX6_service 171 = .ok (.aload_n 0, 1) := by decide +kernel
theorem dX6_service_172 : decode cX6_service 172 = .ok (.getfield 24, 3) := by decide +kernel
theorem dX6_service_175 : decode cX6_service 175 = .ok (.getfield 107, 3) := by decide +kernel
theorem dX6_service_178 : decode cX6_service 178 = .ok (.iload_n 1, 1) := by decide +kernel
theorem dX6_service_179 : decode cX6_service 179 = .ok (.bipush 9, 2) := by decide +kernel
theorem dX6_service_181 : decode cX6_service 181 = .ok (.invokevirtual 173, 3) := by decide +kernel
theorem dX6_service_184 : decode cX6_service 184 = .ok (.ireturn, 1) := by decide +kernel
theorem dX6_service_185 : decode cX6_service 185 = .ok (.aload_n 0, 1) := by decide +kernel
theorem dX6_service_186 : decode cX6_service 186 = .ok (.getfield 24, 3) := by decide +kernel
theorem dX6_service_189 : decode cX6_service 189 = .ok (.getfield 107, 3) := by decide +kernel
theorem dX6_service_192 : decode cX6_service 192 = .ok (.iload_n 1, 1) := by decide +kernel
theorem dX6_service_193 : decode cX6_service 193 = .ok (.bipush 10, 2) := by decide +kernel
theorem dX6_service_195 : decode cX6_service 195 = .ok (.invokevirtual 173, 3) := by decide +kernel
theorem dX6_service_198 : decode cX6_service 198 = .ok (.ireturn, 1) := by decide +kernel
theorem dX6_service_199 : decode cX6_service 199 = .ok (.aload_n 0, 1) := by decide +kernel
theorem dX6_service_200 : decode cX6_service 200 = .ok (.getfield 24, 3) := by decide +kernel
theorem dX6_service_203 : decode cX6_service 203 = .ok (.getfield 107, 3) := by decide +kernel
theorem dX6_service_206 : decode cX6_service 206 = .ok (.iload_n 1, 1) := by decide +kernel
theorem dX6_service_207 : decode cX6_service 207 = .ok (.bipush 11, 2) := by decide +kernel
theorem dX6_service_209 : decode cX6_service 209 = .ok (.invokevirtual 173, 3) := by decide +kernel
theorem dX6_service_212 : decode cX6_service 212 = .ok (.ireturn, 1) := by decide +kernel
theorem dX6_service_213 : decode cX6_service 213 = .ok (.new 95, 3) := by decide +kernel
theorem dX6_service_216 : decode cX6_service 216 = .ok (.dup, 1) := by decide +kernel
theorem dX6_service_217 : decode cX6_service 217 = .ok (.ldc 192, 2) := by decide +kernel
theorem dX6_service_219 : decode cX6_service 219 = .ok (.invokespecial 99, 3) := by decide +kernel
theorem dX6_service_222 : decode cX6_service 222 = .ok (.athrow, 1) := by decide +kernel
theorem dX6_baseByte_0 : decode cX6_baseByte 0 = .ok (.aload_n 0, 1) := by decide +kernel
theorem dX6_baseByte_1 : decode cX6_baseByte 1 = .ok (.iload_n 1, 1) := by decide +kernel
theorem dX6_baseByte_2 : decode cX6_baseByte 2 = .ok (.invokevirtual 189, 3) := by decide +kernel
theorem dX6_baseByte_5 : decode cX6_baseByte 5 = .ok (.aload_n 0, 1) := by decide +kernel
theorem dX6_baseByte_6 : decode cX6_baseByte 6 = .ok (.getfield 24, 3) := by decide +kernel
theorem dX6_baseByte_9 : decode cX6_baseByte 9 = .ok (.getfield 107, 3) := by decide +kernel
theorem dX6_baseByte_12 : decode cX6_baseByte 12 = .ok (.iload_n 1, 1) := by decide +kernel
theorem dX6_baseByte_13 : decode cX6_baseByte 13 = .ok (.iconst 5, 1) := by decide +kernel
theorem dX6_baseByte_14 : decode cX6_baseByte 14 = .ok (.invokevirtual 173, 3) := by decide +kernel
theorem dX6_baseByte_17 : decode cX6_baseByte 17 = .ok (.iload_n 2, 1) := by decide +kernel
theorem dX6_baseByte_18 : decode cX6_baseByte 18 = .ok (.invokestatic 194, 3) := by decide +kernel
theorem dX6_baseByte_21 : decode cX6_baseByte 21 = .ok (.ireturn, 1) := by decide +kernel
theorem dX6_haveSameName_0 : decode cX6_haveSameName 0 = .ok (.aload_n 0, 1) := by decide +kernel
theorem dX6_haveSameName_1 : decode cX6_haveSameName 1 = .ok (.iload_n 1, 1) := by decide +kernel
theorem dX6_haveSameName_2 : decode cX6_haveSameName 2 = .ok (.invokevirtual 189, 3) := by decide +kernel
theorem dX6_haveSameName_5 : decode cX6_haveSameName 5 = .ok (.aload_n 0, 1) := by decide +kernel
theorem dX6_haveSameName_6 : decode cX6_haveSameName 6 = .ok (.iload_n 2, 1) := by decide +kernel
theorem dX6_haveSameName_7 : decode cX6_haveSameName 7 = .ok (.invokevirtual 189, 3) := by decide +kernel
theorem dX6_haveSameName_10 : decode cX6_haveSameName 10 = .ok (.aload_n 0, 1) := by decide +kernel
theorem dX6_haveSameName_11 : decode cX6_haveSameName 11 = .ok (.getfield 24, 3) := by decide +kernel
theorem dX6_haveSameName_14 : decode cX6_haveSameName 14 = .ok (.getfield 107, 3) := by decide +kernel
theorem dX6_haveSameName_17 : decode cX6_haveSameName 17 = .ok (.iload_n 1, 1) := by decide +kernel
theorem dX6_haveSameName_18 : decode cX6_haveSameName 18 = .ok (.aload_n 0, 1) := by decide +kernel
theorem dX6_haveSameName_19 : decode cX6_haveSameName 19 = .ok (.getfield 24, 3) := by decide +kernel
theorem dX6_haveSameName_22 : decode cX6_haveSameName 22 = .ok (.getfield 107, 3) := by decide +kernel
theorem dX6_haveSameName_25 : decode cX6_haveSameName 25 = .ok (.iload_n 2, 1) := by decide +kernel
theorem dX6_haveSameName_26 : decode cX6_haveSameName 26 = .ok (.invokevirtual 197, 3) := by decide +kernel
theorem dX6_haveSameName_29 : decode cX6_haveSameName 29 = .ok (.ireturn, 1) := by decide +kernel
theorem dX6_record_0 : decode cX6_record 0 = .ok (.aload_n 0, 1) := by decide +kernel
theorem dX6_record_1 : decode cX6_record 1 = .ok (.iload_n 1, 1) := by decide +kernel
theorem dX6_record_2 : decode cX6_record 2 = .ok (.iload_n 2, 1) := by decide +kernel
theorem dX6_record_3 : decode cX6_record 3 = .ok (.invokevirtual 201, 3) := by decide +kernel
theorem dX6_record_6 : decode cX6_record 6 = .ok (.aload_n 0, 1) := by decide +kernel
theorem dX6_record_7 : decode cX6_record 7 = .ok (.getfield 24, 3) := by decide +kernel
theorem dX6_record_10 : decode cX6_record 10 = .ok (.iload_n 1, 1) := by decide +kernel
theorem dX6_record_11 : decode cX6_record 11 = .ok (.invokevirtual 180, 3) := by decide +kernel
theorem dX6_record_14 : decode cX6_record 14 = .ok (.astore 4, 2) := by decide +kernel
theorem dX6_record_16 : decode cX6_record 16 = .ok (.iload_n 3, 1) := by decide +kernel
theorem dX6_record_17 : decode cX6_record 17 = .ok (.tableswitch 112 0 7 #[47, 55, 63, 71, 79, 87, 96, 105], 47) := by decide +kernel
theorem dX6_recordByte_0 : decode cX6_recordByte 0 = .ok (.aload_n 0, 1) := by decide +kernel
theorem dX6_recordByte_1 : decode cX6_recordByte 1 = .ok (.iload_n 1, 1) := by decide +kernel
theorem dX6_recordByte_2 : decode cX6_recordByte 2 = .ok (.iload_n 2, 1) := by decide +kernel
theorem dX6_recordByte_3 : decode cX6_recordByte 3 = .ok (.invokevirtual 201, 3) := by decide +kernel
theorem dX6_recordByte_6 : decode cX6_recordByte 6 = .ok (.aload_n 0, 1) := by decide +kernel
theorem dX6_recordByte_7 : decode cX6_recordByte 7 = .ok (.getfield 24, 3) := by decide +kernel
theorem dX6_recordByte_10 : decode cX6_recordByte 10 = .ok (.iload_n 1, 1) := by decide +kernel
theorem dX6_recordByte_11 : decode cX6_recordByte 11 = .ok (.invokevirtual 180, 3) := by decide +kernel
theorem dX6_recordByte_14 : decode cX6_recordByte 14 = .ok (.iload_n 2, 1) := by decide +kernel
theorem dX6_recordByte_15 : decode cX6_recordByte 15 = .ok (.iconst 5, 1) := by decide +kernel
theorem dX6_recordByte_16 : decode cX6_recordByte 16 = .ok (.invokevirtual 173, 3) := by decide +kernel
theorem dX6_recordByte_19 : decode cX6_recordByte 19 = .ok (.iload_n 3, 1) := by decide +kernel
theorem dX6_recordByte_20 : decode cX6_recordByte 20 = .ok (.invokestatic 194, 3) := by decide +kernel
theorem dX6_recordByte_23 : decode cX6_recordByte 23 = .ok (.ireturn, 1) := by decide +kernel
theorem dX6_browser_0 : decode cX6_browser 0 = .ok (.aload_n 0, 1) := by decide +kernel
theorem dX6_browser_1 : decode cX6_browser 1 = .ok (.iload_n 1, 1) := by decide +kernel
theorem dX6_browser_2 : decode cX6_browser 2 = .ok (.invokevirtual 166, 3) := by decide +kernel
theorem dX6_browser_5 : decode cX6_browser 5 = .ok (.aload_n 0, 1) := by decide +kernel
theorem dX6_browser_6 : decode cX6_browser 6 = .ok (.iload_n 2, 1) := by decide +kernel
theorem dX6_browser_7 : decode cX6_browser 7 = .ok (.invokevirtual 210, 3) := by decide +kernel
theorem dX6_browser_10 : decode cX6_browser 10 = .ok (.iload_n 3, 1) := by decide +kernel
theorem dX6_browser_11 : decode cX6_browser 11 = .ok (.ifCond .lt 8, 3) := by decide +kernel
theorem dX6_browser_14 : decode cX6_browser 14 = .ok (.iload_n 3, 1) := by decide +kernel
theorem dX6_browser_15 : decode cX6_browser 15 = .ok (.iconst 3, 1) := by decide +kernel
theorem dX6_browser_16 : decode cX6_browser 16 = .ok (.if_icmp .le 13, 3) := by decide +kernel
theorem dX6_browser_19 : decode cX6_browser 19 = .ok (.new 95, 3) := by decide +kernel
theorem dX6_browser_22 : decode cX6_browser 22 = .ok (.dup, 1) := by decide +kernel
theorem dX6_browser_23 : decode cX6_browser 23 = .ok (.ldc 213, 2) := by decide +kernel
theorem dX6_browser_25 : decode cX6_browser 25 = .ok (.invokespecial 99, 3) := by decide +kernel
theorem dX6_browser_28 : decode cX6_browser 28 = .ok (.athrow, 1) := by decide +kernel
theorem dX6_browser_29 : decode cX6_browser 29 = .ok (.aload_n 0, 1) := by decide +kernel
theorem dX6_browser_30 : decode cX6_browser 30 = .ok (.getfield 24, 3) := by decide +kernel
theorem dX6_browser_33 : decode cX6_browser 33 = .ok (.iload_n 1, 1) := by decide +kernel
theorem dX6_browser_34 : decode cX6_browser 34 = .ok (.iload_n 2, 1) := by decide +kernel
theorem dX6_browser_35 : decode cX6_browser 35 = .ok (.invokevirtual 215, 3) := by decide +kernel
theorem dX6_browser_38 : decode cX6_browser 38 = .ok (.ifCond .eq 22, 3) := by decide +kernel
theorem dX6_browser_41 : decode cX6_browser 41 = .ok (.aload_n 0, 1) := by decide +kernel
theorem dX6_browser_42 : decode cX6_browser 42 = .ok (.getfield 24, 3) := by decide +kernel
theorem dX6_browser_45 : decode cX6_browser 45 = .ok (.getfield 219, 3) := by decide +kernel
theorem dX6_browser_48 : decode cX6_browser 48 = .ok (.iload_n 1, 1) := by decide +kernel
theorem dX6_browser_49 : decode cX6_browser 49 = .ok (.iload_n 2, 1) := by decide +kernel
theorem dX6_browser_50 : decode cX6_browser 50 = .ok (.invokestatic 222, 3) := by decide +kernel
theorem dX6_browser_53 : decode cX6_browser 53 = .ok (.iload_n 3, 1) := by decide +kernel
theorem dX6_browser_54 : decode cX6_browser 54 = .ok (.invokevirtual 173, 3) := by decide +kernel
theorem dX6_browser_57 : decode cX6_browser 57 = .ok (.goto 4, 3) := by decide +kernel
theorem dX6_browser_60 : decode cX6_browser 60 = .ok (.iconst (-1), 1) := by decide +kernel
theorem dX6_browser_61 : decode cX6_browser 61 = .ok (.ireturn, 1) := by decide +kernel
theorem dX6_message_0 : decode cX6_message 0 = .ok (.iload_n 1, 1) := by decide +kernel
theorem dX6_message_1 : decode cX6_message 1 = .ok (.ifCond .lt 14, 3) := by decide +kernel
theorem dX6_message_4 : decode cX6_message 4 = .ok (.iload_n 1, 1) := by decide +kernel
theorem dX6_message_5 : decode cX6_message 5 = .ok (.aload_n 0, 1) := by decide +kernel
theorem dX6_message_6 : decode cX6_message 6 = .ok (.getfield 24, 3) := by decide +kernel
theorem dX6_message_9 : decode cX6_message 9 = .ok (.invokevirtual 148, 3) := by decide +kernel
theorem dX6_message_12 : decode cX6_message 12 = .ok (.if_icmp .lt 13, 3) := by decide +kernel
theorem dX6_message_15 : decode cX6_message 15 = .ok (.new 84, 3) := by decide +kernel
theorem dX6_message_18 : decode cX6_message 18 = .ok (.dup, 1) := by decide +kernel
theorem dX6_message_19 : decode cX6_message 19 = .ok (.ldc 225, 2) := by decide +kernel
theorem dX6_message_21 : decode cX6_message 21 = .ok (.invokespecial 88, 3) := by decide +kernel
theorem dX6_message_24 : decode cX6_message 24 = .ok (.athrow, 1) := by decide +kernel
theorem dX6_isMarked_0 : decode cX6_isMarked 0 = .ok (.iload_n 1, 1) := by decide +kernel
theorem dX6_isMarked_1 : decode cX6_isMarked 1 = .ok (.invokestatic 248, 3) := by decide +kernel
theorem dX6_isMarked_4 : decode cX6_isMarked 4 = .ok (.aload_n 0, 1) := by decide +kernel
theorem dX6_isMarked_5 : decode cX6_isMarked 5 = .ok (.getfield 24, 3) := by decide +kernel
theorem dX6_isMarked_8 : decode cX6_isMarked 8 = .ok (.getfield 251, 3) := by decide +kernel
theorem dX6_isMarked_11 : decode cX6_isMarked 11 = .ok (.iconst 0, 1) := by decide +kernel
theorem dX6_isMarked_12 : decode cX6_isMarked 12 = .ok (.iload_n 1, 1) := by decide +kernel
theorem dX6_isMarked_13 : decode cX6_isMarked 13 = .ok (.invokevirtual 122, 3) := by decide +kernel
theorem dX6_isMarked_16 : decode cX6_isMarked 16 = .ok (.iconst (-1), 1) := by decide +kernel
theorem dX6_isMarked_17 : decode cX6_isMarked 17 = .ok (.if_icmp .eq 7, 3) := by decide +kernel
theorem dX6_isMarked_20 : decode cX6_isMarked 20 = .ok (.iconst 1, 1) := by decide +kernel
theorem dX6_isMarked_21 : decode cX6_isMarked 21 = .ok (.goto 4, 3) := by decide +kernel
theorem dX6_isMarked_24 : decode cX6_isMarked 24 = .ok (.iconst 0, 1) := by decide +kernel
theorem dX6_isMarked_25 : decode cX6_isMarked 25 = .ok (.ireturn, 1) := by decide +kernel
theorem dX6_log_0 : decode cX6_log 0 = .ok (.iload_n 1, 1) := by decide +kernel
theorem dX6_log_1 : decode cX6_log 1 = .ok (.ifCond .lt 14, 3) := by decide +kernel
theorem dX6_log_4 : decode cX6_log 4 = .ok (.iload_n 1, 1) := by decide +kernel
theorem dX6_log_5 : decode cX6_log 5 = .ok (.aload_n 0, 1) := by decide +kernel
theorem dX6_log_6 : decode cX6_log 6 = .ok (.getfield 24, 3) := by decide +kernel
theorem dX6_log_9 : decode cX6_log 9 = .ok (.invokevirtual 160, 3) := by decide +kernel
theorem dX6_log_12 : decode cX6_log 12 = .ok (.if_icmp .lt 13, 3) := by decide +kernel
theorem dX6_log_15 : decode cX6_log 15 = .ok (.new 84, 3) := by decide +kernel
theorem dX6_log_18 : decode cX6_log 18 = .ok (.dup, 1) := by decide +kernel
theorem dX6_log_19 : decode cX6_log 19 = .ok (.ldc 254, 2) := by decide +kernel
theorem dX6_log_21 : decode cX6_log 21 = .ok (.invokespecial 88, 3) := by decide +kernel
theorem dX6_log_24 : decode cX6_log 24 = .ok (.athrow, 1) := by decide +kernel
theorem dX6_known_0 : decode cX6_known 0 = .ok (.aload_n 0, 1) := by decide +kernel
theorem dX6_known_1 : decode cX6_known 1 = .ok (.iload_n 1, 1) := by decide +kernel
theorem dX6_known_2 : decode cX6_known 2 = .ok (.invokevirtual 166, 3) := by decide +kernel
theorem dX6_known_5 : decode cX6_known 5 = .ok (.aload_n 0, 1) := by decide +kernel
theorem dX6_known_6 : decode cX6_known 6 = .ok (.iload_n 2, 1) := by decide +kernel
theorem dX6_known_7 : decode cX6_known 7 = .ok (.invokevirtual 189, 3) := by decide +kernel
theorem dX6_known_10 : decode cX6_known 10 = .ok (.aload_n 0, 1) := by decide +kernel
theorem dX6_known_11 : decode cX6_known 11 = .ok (.getfield 24, 3) := by decide +kernel
theorem dX6_known_14 : decode cX6_known 14 = .ok (.iload_n 1, 1) := by decide +kernel
theorem dX6_known_15 : decode cX6_known 15 = .ok (.iload_n 2, 1) := by decide +kernel
theorem dX6_known_16 : decode cX6_known 16 = .ok (.invokevirtual 262, 3) := by decide +kernel
theorem dX6_known_19 : decode cX6_known 19 = .ok (.ireturn, 1) := by decide +kernel
theorem dX6_records_0 : decode cX6_records 0 = .ok (.aload_n 0, 1) := by decide +kernel
theorem dX6_records_1 : decode cX6_records 1 = .ok (.iload_n 1, 1) := by decide +kernel
theorem dX6_records_2 : decode cX6_records 2 = .ok (.invokevirtual 166, 3) := by decide +kernel
theorem dX6_records_5 : decode cX6_records 5 = .ok (.aload_n 0, 1) := by decide +kernel
theorem dX6_records_6 : decode cX6_records 6 = .ok (.iload_n 2, 1) := by decide +kernel
theorem dX6_records_7 : decode cX6_records 7 = .ok (.invokevirtual 210, 3) := by decide +kernel
theorem dX6_records_10 : decode cX6_records 10 = .ok (.aload_n 0, 1) := by decide +kernel
theorem dX6_records_11 : decode cX6_records 11 = .ok (.getfield 24, 3) := by decide +kernel
theorem dX6_records_14 : decode cX6_records 14 = .ok (.iload_n 1, 1) := by decide +kernel
theorem dX6_records_15 : decode cX6_records 15 = .ok (.iload_n 2, 1) := by decide +kernel
theorem dX6_records_16 : decode cX6_records 16 = .ok (.invokevirtual 265, 3) := by decide +kernel
theorem dX6_records_19 : decode cX6_records 19 = .ok (.ireturn, 1) := by decide +kernel
theorem dX6_stale_0 : decode cX6_stale 0 = .ok (.aload_n 0, 1) := by decide +kernel
theorem dX6_stale_1 : decode cX6_stale 1 = .ok (.getfield 24, 3) := by decide +kernel
theorem dX6_stale_4 : decode cX6_stale 4 = .ok (.invokevirtual 268, 3) := by decide +kernel
theorem dX6_stale_7 : decode cX6_stale 7 = .ok (.ireturn, 1) := by decide +kernel
theorem dX6_clashes_0 : decode cX6_clashes 0 = .ok (.aload_n 0, 1) := by decide +kernel
theorem dX6_clashes_1 : decode cX6_clashes 1 = .ok (.getfield 24, 3) := by decide +kernel
theorem dX6_clashes_4 : decode cX6_clashes 4 = .ok (.invokevirtual 271, 3) := by decide +kernel
theorem dX6_clashes_7 : decode cX6_clashes 7 = .ok (.ireturn, 1) := by decide +kernel
theorem dX6_coverage_0 : decode cX6_coverage 0 = .ok (.aload_n 0, 1) := by decide +kernel
theorem dX6_coverage_1 : decode cX6_coverage 1 = .ok (.getfield 24, 3) := by decide +kernel
theorem dX6_coverage_4 : decode cX6_coverage 4 = .ok (.iconst 0, 1) := by decide +kernel
theorem dX6_coverage_5 : decode cX6_coverage 5 = .ok (.invokevirtual 274, 3) := by decide +kernel
theorem dX6_coverage_8 : decode cX6_coverage 8 = .ok (.istore_n 1, 1) := by decide +kernel
theorem dX6_coverage_9 : decode cX6_coverage 9 = .ok (.iload_n 1, 1) := by decide +kernel
theorem dX6_coverage_10 : decode cX6_coverage 10 = .ok (.ifCond .ne 7, 3) := by decide +kernel
theorem dX6_coverage_13 : decode cX6_coverage 13 = .ok (.dconst 0, 1) := by decide +kernel
theorem dX6_coverage_14 : decode cX6_coverage 14 = .ok (.goto 15, 3) := by decide +kernel
theorem dX6_coverage_29 : decode cX6_coverage 29 = .ok (.dreturn, 1) := by decide +kernel
theorem dX6_why_0 : decode cX6_why 0 = .ok (.aload_n 0, 1) := by decide +kernel
theorem dX6_why_1 : decode cX6_why 1 = .ok (.iload_n 1, 1) := by decide +kernel
theorem dX6_why_2 : decode cX6_why 2 = .ok (.invokevirtual 189, 3) := by decide +kernel
theorem dX6_why_5 : decode cX6_why 5 = .ok (.iload_n 2, 1) := by decide +kernel
theorem dX6_why_6 : decode cX6_why 6 = .ok (.ifCond .eq 19, 3) := by decide +kernel
theorem dX6_why_9 : decode cX6_why 9 = .ok (.iload_n 2, 1) := by decide +kernel
theorem dX6_why_10 : decode cX6_why 10 = .ok (.iconst 1, 1) := by decide +kernel
theorem dX6_why_11 : decode cX6_why 11 = .ok (.if_icmp .eq 14, 3) := by decide +kernel
theorem dX6_why_14 : decode cX6_why 14 = .ok (.new 95, 3) := by decide +kernel
theorem dX6_why_17 : decode cX6_why 17 = .ok (.dup, 1) := by decide +kernel
theorem dX6_why_18 : decode cX6_why 18 = .ok (.ldc_w 278, 3) := by decide +kernel
theorem dX6_why_21 : decode cX6_why 21 = .ok (.invokespecial 99, 3) := by decide +kernel
theorem dX6_why_24 : decode cX6_why 24 = .ok (.athrow, 1) := by decide +kernel
theorem dX6_why_25 : decode cX6_why 25 = .ok (.aload_n 0, 1) := by decide +kernel
theorem dX6_why_26 : decode cX6_why 26 = .ok (.getfield 24, 3) := by decide +kernel
theorem dX6_why_29 : decode cX6_why 29 = .ok (.iload_n 1, 1) := by decide +kernel
theorem dX6_why_30 : decode cX6_why 30 = .ok (.invokevirtual 280, 3) := by decide +kernel
theorem dX6_why_33 : decode cX6_why 33 = .ok (.istore_n 3, 1) := by decide +kernel
theorem dX6_why_34 : decode cX6_why 34 = .ok (.iload_n 2, 1) := by decide +kernel
theorem dX6_why_35 : decode cX6_why 35 = .ok (.ifCond .ne 7, 3) := by decide +kernel
theorem dX6_why_38 : decode cX6_why 38 = .ok (.iload_n 3, 1) := by decide +kernel
theorem dX6_why_39 : decode cX6_why 39 = .ok (.goto 12, 3) := by decide +kernel
theorem dX6_why_42 : decode cX6_why 42 = .ok (.aload_n 0, 1) := by decide +kernel
theorem dX6_why_43 : decode cX6_why 43 = .ok (.getfield 24, 3) := by decide +kernel
theorem dX6_why_46 : decode cX6_why 46 = .ok (.iload_n 1, 1) := by decide +kernel
theorem dX6_why_47 : decode cX6_why 47 = .ok (.iload_n 3, 1) := by decide +kernel
theorem dX6_why_48 : decode cX6_why 48 = .ok (.invokevirtual 283, 3) := by decide +kernel
theorem dX6_why_51 : decode cX6_why 51 = .ok (.ireturn, 1) := by decide +kernel
theorem dX6_establishedIn_0 : decode cX6_establishedIn 0 = .ok (.aload_n 0, 1) := by decide +kernel
theorem dX6_establishedIn_1 : decode cX6_establishedIn 1 = .ok (.iload_n 1, 1) := by decide +kernel
theorem dX6_establishedIn_2 : decode cX6_establishedIn 2 = .ok (.invokevirtual 189, 3) := by decide +kernel
theorem dX6_establishedIn_5 : decode cX6_establishedIn 5 = .ok (.aload_n 0, 1) := by decide +kernel
theorem dX6_establishedIn_6 : decode cX6_establishedIn 6 = .ok (.getfield 28, 3) := by decide +kernel
theorem dX6_establishedIn_9 : decode cX6_establishedIn 9 = .ok (.aload_n 0, 1) := by decide +kernel
theorem dX6_establishedIn_10 : decode cX6_establishedIn 10 = .ok (.getfield 24, 3) := by decide +kernel
theorem dX6_establishedIn_13 : decode cX6_establishedIn 13 = .ok (.invokevirtual 100, 3) := by decide +kernel
theorem dX6_establishedIn_16 : decode cX6_establishedIn 16 = .ok (.iconst 0, 1) := by decide +kernel
theorem dX6_establishedIn_17 : decode cX6_establishedIn 17 = .ok (.istore_n 2, 1) := by decide +kernel
theorem dX6_establishedIn_18 : decode cX6_establishedIn 18 = .ok (.iload_n 2, 1) := by decide +kernel
theorem dX6_establishedIn_19 : decode cX6_establishedIn 19 = .ok (.bipush 100, 2) := by decide +kernel
theorem dX6_establishedIn_21 : decode cX6_establishedIn 21 = .ok (.if_icmp .gt 35, 3) := by decide +kernel
theorem dX6_establishedIn_24 : decode cX6_establishedIn 24 = .ok (.aload_n 0, 1) := by decide +kernel
theorem dX6_establishedIn_25 : decode cX6_establishedIn 25 = .ok (.getfield 28, 3) := by decide +kernel
theorem dX6_establishedIn_28 : decode cX6_establishedIn 28 = .ok (.getfield 107, 3) := by decide +kernel
theorem dX6_establishedIn_31 : decode cX6_establishedIn 31 = .ok (.iload_n 1, 1) := by decide +kernel
theorem dX6_establishedIn_32 : decode cX6_establishedIn 32 = .ok (.bipush 6, 2) := by decide +kernel
theorem dX6_establishedIn_34 : decode cX6_establishedIn 34 = .ok (.invokevirtual 173, 3) := by decide +kernel
theorem dX6_establishedIn_37 : decode cX6_establishedIn 37 = .ok (.iconst 2, 1) := by decide +kernel
theorem dX6_establishedIn_38 : decode cX6_establishedIn 38 = .ok (.if_icmp .ne 5, 3) := by decide +kernel
theorem dX6_establishedIn_41 : decode cX6_establishedIn 41 = .ok (.iload_n 2, 1) := by decide +kernel
theorem dX6_establishedIn_42 : decode cX6_establishedIn 42 = .ok (.ireturn, 1) := by decide +kernel
theorem dX6_establishedIn_43 : decode cX6_establishedIn 43 = .ok (.aload_n 0, 1) := by decide +kernel
theorem dX6_establishedIn_44 : decode cX6_establishedIn 44 = .ok (.getfield 28, 3) := by decide +kernel
theorem dX6_establishedIn_47 : decode cX6_establishedIn 47 = .ok (.invokevirtual 286, 3) := by decide +kernel
theorem dX6_establishedIn_50 : decode cX6_establishedIn 50 = .ok (.iinc 2 1, 3) := by decide +kernel
theorem dX6_establishedIn_53 : decode cX6_establishedIn 53 = .ok (.goto (-35), 3) := by decide +kernel
theorem dX6_numberIn_0 : decode cX6_numberIn 0 = .ok (.aload_n 0, 1) := by decide +kernel
theorem dX6_numberIn_1 : decode cX6_numberIn 1 = .ok (.iload_n 1, 1) := by decide +kernel
theorem dX6_numberIn_2 : decode cX6_numberIn 2 = .ok (.invokevirtual 189, 3) := by decide +kernel
theorem dX6_numberIn_5 : decode cX6_numberIn 5 = .ok (.iload_n 2, 1) := by decide +kernel
theorem dX6_numberIn_6 : decode cX6_numberIn 6 = .ok (.iconst 0, 1) := by decide +kernel
theorem dX6_numberIn_7 : decode cX6_numberIn 7 = .ok (.invokestatic 291, 3) := by decide +kernel
theorem dX6_numberIn_10 : decode cX6_numberIn 10 = .ok (.aload_n 0, 1) := by decide +kernel
theorem dX6_numberIn_11 : decode cX6_numberIn 11 = .ok (.getfield 28, 3) := by decide +kernel
theorem dX6_numberIn_14 : decode cX6_numberIn 14 = .ok (.aload_n 0, 1) := by decide +kernel
theorem dX6_numberIn_15 : decode cX6_numberIn 15 = .ok (.getfield 24, 3) := by decide +kernel
theorem dX6_numberIn_18 : decode cX6_numberIn 18 = .ok (.invokevirtual 100, 3) := by decide +kernel
theorem dX6_numberIn_21 : decode cX6_numberIn 21 = .ok (.iconst 0, 1) := by decide +kernel
theorem dX6_numberIn_22 : decode cX6_numberIn 22 = .ok (.istore_n 3, 1) := by decide +kernel
theorem dX6_numberIn_23 : decode cX6_numberIn 23 = .ok (.iload_n 3, 1) := by decide +kernel
theorem dX6_numberIn_24 : decode cX6_numberIn 24 = .ok (.iload_n 2, 1) := by decide +kernel
theorem dX6_numberIn_25 : decode cX6_numberIn 25 = .ok (.if_icmp .ge 16, 3) := by decide +kernel
theorem dX6_numberIn_28 : decode cX6_numberIn 28 = .ok (.aload_n 0, 1) := by decide +kernel
theorem dX6_numberIn_29 : decode cX6_numberIn 29 = .ok (.getfield 28, 3) := by decide +kernel
theorem dX6_numberIn_32 : decode cX6_numberIn 32 = .ok (.invokevirtual 286, 3) := by decide +kernel
theorem dX6_numberIn_35 : decode cX6_numberIn 35 = .ok (.iinc 3 1, 3) := by decide +kernel
theorem dX6_numberIn_38 : decode cX6_numberIn 38 = .ok (.goto (-15), 3) := by decide +kernel
theorem dX6_numberIn_41 : decode cX6_numberIn 41 = .ok (.aload_n 0, 1) := by decide +kernel
theorem dX6_numberIn_42 : decode cX6_numberIn 42 = .ok (.getfield 28, 3) := by decide +kernel
theorem dX6_numberIn_45 : decode cX6_numberIn 45 = .ok (.getfield 107, 3) := by decide +kernel
theorem dX6_numberIn_48 : decode cX6_numberIn 48 = .ok (.iload_n 1, 1) := by decide +kernel
theorem dX6_numberIn_49 : decode cX6_numberIn 49 = .ok (.iconst 2, 1) := by decide +kernel
theorem dX6_numberIn_50 : decode cX6_numberIn 50 = .ok (.invokevirtual 173, 3) := by decide +kernel
theorem dX6_numberIn_53 : decode cX6_numberIn 53 = .ok (.ireturn, 1) := by decide +kernel
theorem dX6_knownIn_0 : decode cX6_knownIn 0 = .ok (.aload_n 0, 1) := by decide +kernel
theorem dX6_knownIn_1 : decode cX6_knownIn 1 = .ok (.iload_n 1, 1) := by decide +kernel
theorem dX6_knownIn_2 : decode cX6_knownIn 2 = .ok (.invokevirtual 166, 3) := by decide +kernel
theorem dX6_knownIn_5 : decode cX6_knownIn 5 = .ok (.aload_n 0, 1) := by decide +kernel
theorem dX6_knownIn_6 : decode cX6_knownIn 6 = .ok (.iload_n 2, 1) := by decide +kernel
theorem dX6_knownIn_7 : decode cX6_knownIn 7 = .ok (.invokevirtual 189, 3) := by decide +kernel
theorem dX6_knownIn_10 : decode cX6_knownIn 10 = .ok (.aload_n 0, 1) := by decide +kernel
theorem dX6_knownIn_11 : decode cX6_knownIn 11 = .ok (.getfield 28, 3) := by decide +kernel
theorem dX6_knownIn_14 : decode cX6_knownIn 14 = .ok (.aload_n 0, 1) := by decide +kernel
theorem dX6_knownIn_15 : decode cX6_knownIn 15 = .ok (.getfield 24, 3) := by decide +kernel
theorem dX6_knownIn_18 : decode cX6_knownIn 18 = .ok (.invokevirtual 100, 3) := by decide +kernel
theorem dX6_knownIn_21 : decode cX6_knownIn 21 = .ok (.iconst 0, 1) := by decide +kernel
theorem dX6_knownIn_22 : decode cX6_knownIn 22 = .ok (.istore_n 3, 1) := by decide +kernel
theorem dX6_knownIn_23 : decode cX6_knownIn 23 = .ok (.iload_n 3, 1) := by decide +kernel
theorem dX6_knownIn_24 : decode cX6_knownIn 24 = .ok (.bipush 100, 2) := by decide +kernel
theorem dX6_knownIn_26 : decode cX6_knownIn 26 = .ok (.if_icmp .gt 42, 3) := by decide +kernel
theorem dX6_knownIn_29 : decode cX6_knownIn 29 = .ok (.aload_n 0, 1) := by decide +kernel
theorem dX6_knownIn_30 : decode cX6_knownIn 30 = .ok (.getfield 28, 3) := by decide +kernel
theorem dX6_knownIn_33 : decode cX6_knownIn 33 = .ok (.iload_n 1, 1) := by decide +kernel
theorem dX6_knownIn_34 : decode cX6_knownIn 34 = .ok (.iload_n 2, 1) := by decide +kernel
theorem dX6_knownIn_35 : decode cX6_knownIn 35 = .ok (.invokevirtual 262, 3) := by decide +kernel
theorem dX6_knownIn_38 : decode cX6_knownIn 38 = .ok (.aload_n 0, 1) := by decide +kernel
theorem dX6_knownIn_39 : decode cX6_knownIn 39 = .ok (.getfield 28, 3) := by decide +kernel
theorem dX6_knownIn_42 : decode cX6_knownIn 42 = .ok (.getfield 107, 3) := by decide +kernel
theorem dX6_knownIn_45 : decode cX6_knownIn 45 = .ok (.iload_n 2, 1) := by decide +kernel
theorem dX6_knownIn_46 : decode cX6_knownIn 46 = .ok (.iconst 3, 1) := by decide +kernel
theorem dX6_knownIn_47 : decode cX6_knownIn 47 = .ok (.invokevirtual 173, 3) := by decide +kernel
theorem dX6_knownIn_50 : decode cX6_knownIn 50 = .ok (.if_icmp .ne 5, 3) := by decide +kernel
theorem dX6_knownIn_53 : decode cX6_knownIn 53 = .ok (.iload_n 3, 1) := by decide +kernel
theorem dX6_knownIn_54 : decode cX6_knownIn 54 = .ok (.ireturn, 1) := by decide +kernel
theorem dX6_knownIn_55 : decode cX6_knownIn 55 = .ok (.aload_n 0, 1) := by decide +kernel
theorem dX6_knownIn_56 : decode cX6_knownIn 56 = .ok (.getfield 28, 3) := by decide +kernel
theorem dX6_knownIn_59 : decode cX6_knownIn 59 = .ok (.invokevirtual 286, 3) := by decide +kernel
theorem dX6_knownIn_62 : decode cX6_knownIn 62 = .ok (.iinc 3 1, 3) := by decide +kernel
theorem dX6_knownIn_65 : decode cX6_knownIn 65 = .ok (.goto (-42), 3) := by decide +kernel
theorem dX6_knownIn_68 : decode cX6_knownIn 68 = .ok (.new 129, 3) := by decide +kernel
theorem dX6_knownIn_71 : decode cX6_knownIn 71 = .ok (.dup, 1) := by decide +kernel
theorem dX6_knownIn_72 : decode cX6_knownIn 72 = .ok (.ldc_w 294, 3) := by decide +kernel
theorem dX6_knownIn_75 : decode cX6_knownIn 75 = .ok (.invokespecial 133, 3) := by decide +kernel
theorem dX6_knownIn_78 : decode cX6_knownIn 78 = .ok (.athrow, 1) := by decide +kernel
theorem dX6_messagesIn_0 : decode cX6_messagesIn 0 = .ok (.iload_n 1, 1) := by decide +kernel
theorem dX6_messagesIn_1 : decode cX6_messagesIn 1 = .ok (.iconst 0, 1) := by decide +kernel
theorem dX6_messagesIn_2 : decode cX6_messagesIn 2 = .ok (.invokestatic 291, 3) := by decide +kernel
theorem dX6_messagesIn_5 : decode cX6_messagesIn 5 = .ok (.aload_n 0, 1) := by decide +kernel
theorem dX6_messagesIn_6 : decode cX6_messagesIn 6 = .ok (.getfield 28, 3) := by decide +kernel
theorem dX6_messagesIn_9 : decode cX6_messagesIn 9 = .ok (.aload_n 0, 1) := by decide +kernel
theorem dX6_messagesIn_10 : decode cX6_messagesIn 10 = .ok (.getfield 24, 3) := by decide +kernel
theorem dX6_messagesIn_13 : decode cX6_messagesIn 13 = .ok (.invokevirtual 100, 3) := by decide +kernel
theorem dX6_messagesIn_16 : decode cX6_messagesIn 16 = .ok (.iconst 0, 1) := by decide +kernel
theorem dX6_messagesIn_17 : decode cX6_messagesIn 17 = .ok (.istore_n 2, 1) := by decide +kernel
theorem dX6_messagesIn_18 : decode cX6_messagesIn 18 = .ok (.iload_n 2, 1) := by decide +kernel
theorem dX6_messagesIn_19 : decode cX6_messagesIn 19 = .ok (.iload_n 1, 1) := by decide +kernel
theorem dX6_messagesIn_20 : decode cX6_messagesIn 20 = .ok (.if_icmp .ge 16, 3) := by decide +kernel
theorem dX6_messagesIn_23 : decode cX6_messagesIn 23 = .ok (.aload_n 0, 1) := by decide +kernel
theorem dX6_messagesIn_24 : decode cX6_messagesIn 24 = .ok (.getfield 28, 3) := by decide +kernel
theorem dX6_messagesIn_27 : decode cX6_messagesIn 27 = .ok (.invokevirtual 286, 3) := by decide +kernel
theorem dX6_messagesIn_30 : decode cX6_messagesIn 30 = .ok (.iinc 2 1, 3) := by decide +kernel
theorem dX6_messagesIn_33 : decode cX6_messagesIn 33 = .ok (.goto (-15), 3) := by decide +kernel
theorem dX6_messagesIn_36 : decode cX6_messagesIn 36 = .ok (.aload_n 0, 1) := by decide +kernel
theorem dX6_messagesIn_37 : decode cX6_messagesIn 37 = .ok (.getfield 28, 3) := by decide +kernel
theorem dX6_messagesIn_40 : decode cX6_messagesIn 40 = .ok (.getfield 137, 3) := by decide +kernel
theorem dX6_messagesIn_43 : decode cX6_messagesIn 43 = .ok (.aload_n 0, 1) := by decide +kernel
theorem dX6_messagesIn_44 : decode cX6_messagesIn 44 = .ok (.getfield 24, 3) := by decide +kernel
theorem dX6_messagesIn_47 : decode cX6_messagesIn 47 = .ok (.getfield 137, 3) := by decide +kernel
theorem dX6_messagesIn_50 : decode cX6_messagesIn 50 = .ok (.lsub, 1) := by decide +kernel
theorem dX6_messagesIn_51 : decode cX6_messagesIn 51 = .ok (.invokestatic 141, 3) := by decide +kernel
theorem dX6_messagesIn_54 : decode cX6_messagesIn 54 = .ok (.ireturn, 1) := by decide +kernel
theorem dX6_freshIn_0 : decode cX6_freshIn 0 = .ok (.aload_n 0, 1) := by decide +kernel
theorem dX6_freshIn_1 : decode cX6_freshIn 1 = .ok (.getfield 28, 3) := by decide +kernel
theorem dX6_freshIn_4 : decode cX6_freshIn 4 = .ok (.aload_n 0, 1) := by decide +kernel
theorem dX6_freshIn_5 : decode cX6_freshIn 5 = .ok (.getfield 24, 3) := by decide +kernel
theorem dX6_freshIn_8 : decode cX6_freshIn 8 = .ok (.invokevirtual 100, 3) := by decide +kernel
theorem dX6_freshIn_11 : decode cX6_freshIn 11 = .ok (.iconst 0, 1) := by decide +kernel
theorem dX6_freshIn_12 : decode cX6_freshIn 12 = .ok (.istore_n 1, 1) := by decide +kernel
theorem dX6_freshIn_13 : decode cX6_freshIn 13 = .ok (.iload_n 1, 1) := by decide +kernel
theorem dX6_freshIn_14 : decode cX6_freshIn 14 = .ok (.bipush 100, 2) := by decide +kernel
theorem dX6_freshIn_16 : decode cX6_freshIn 16 = .ok (.if_icmp .gt 28, 3) := by decide +kernel
theorem dX6_freshIn_19 : decode cX6_freshIn 19 = .ok (.aload_n 0, 1) := by decide +kernel
theorem dX6_freshIn_20 : decode cX6_freshIn 20 = .ok (.getfield 28, 3) := by decide +kernel
theorem dX6_freshIn_23 : decode cX6_freshIn 23 = .ok (.invokevirtual 268, 3) := by decide +kernel
theorem dX6_freshIn_26 : decode cX6_freshIn 26 = .ok (.ifCond .ne 5, 3) := by decide +kernel
theorem dX6_freshIn_29 : decode cX6_freshIn 29 = .ok (.iload_n 1, 1) := by decide +kernel
theorem dX6_freshIn_30 : decode cX6_freshIn 30 = .ok (.ireturn, 1) := by decide +kernel
theorem dX6_numberIf_0 : decode cX6_numberIf 0 = .ok (.aload_n 0, 1) := by decide +kernel
theorem dX6_numberIf_1 : decode cX6_numberIf 1 = .ok (.iload_n 1, 1) := by decide +kernel
theorem dX6_numberIf_2 : decode cX6_numberIf 2 = .ok (.invokevirtual 166, 3) := by decide +kernel
theorem dX6_numberIf_5 : decode cX6_numberIf 5 = .ok (.aload_n 0, 1) := by decide +kernel
theorem dX6_numberIf_6 : decode cX6_numberIf 6 = .ok (.iload_n 2, 1) := by decide +kernel
theorem dX6_numberIf_7 : decode cX6_numberIf 7 = .ok (.invokevirtual 210, 3) := by decide +kernel
theorem dX6_numberIf_10 : decode cX6_numberIf 10 = .ok (.aload_n 0, 1) := by decide +kernel
theorem dX6_numberIf_11 : decode cX6_numberIf 11 = .ok (.iload_n 3, 1) := by decide +kernel
theorem dX6_numberIf_12 : decode cX6_numberIf 12 = .ok (.invokevirtual 189, 3) := by decide +kernel
theorem dX6_numberIf_15 : decode cX6_numberIf 15 = .ok (.iload 4, 2) := by decide +kernel
theorem dX6_numberIf_17 : decode cX6_numberIf 17 = .ok (.invokestatic 298, 3) := by decide +kernel
theorem dX6_numberIf_20 : decode cX6_numberIf 20 = .ok (.aload_n 0, 1) := by decide +kernel
theorem dX6_numberIf_21 : decode cX6_numberIf 21 = .ok (.getfield 24, 3) := by decide +kernel
theorem dX6_numberIf_24 : decode cX6_numberIf 24 = .ok (.getfield 107, 3) := by decide +kernel
theorem dX6_numberIf_27 : decode cX6_numberIf 27 = .ok (.iload_n 3, 1) := by decide +kernel
theorem dX6_numberIf_28 : decode cX6_numberIf 28 = .ok (.iconst 5, 1) := by decide +kernel
theorem dX6_numberIf_29 : decode cX6_numberIf 29 = .ok (.invokevirtual 173, 3) := by decide +kernel
theorem dX6_numberIf_32 : decode cX6_numberIf 32 = .ok (.istore 5, 2) := by decide +kernel
theorem dX6_numberIf_34 : decode cX6_numberIf 34 = .ok (.aload_n 0, 1) := by decide +kernel
theorem dX6_numberIf_35 : decode cX6_numberIf 35 = .ok (.getfield 24, 3) := by decide +kernel
theorem dX6_numberIf_38 : decode cX6_numberIf 38 = .ok (.iload_n 1, 1) := by decide +kernel
theorem dX6_numberIf_39 : decode cX6_numberIf 39 = .ok (.iload_n 2, 1) := by decide +kernel
theorem dX6_numberIf_40 : decode cX6_numberIf 40 = .ok (.iload 5, 2) := by decide +kernel
theorem dX6_numberIf_42 : decode cX6_numberIf 42 = .ok (.invokevirtual 301, 3) := by decide +kernel
theorem dX6_numberIf_45 : decode cX6_numberIf 45 = .ok (.ifCond .ne 14, 3) := by decide +kernel
theorem dX6_numberIf_48 : decode cX6_numberIf 48 = .ok (.aload_n 0, 1) := by decide +kernel
theorem dX6_numberIf_49 : decode cX6_numberIf 49 = .ok (.getfield 24, 3) := by decide +kernel
theorem dX6_numberIf_52 : decode cX6_numberIf 52 = .ok (.iload_n 1, 1) := by decide +kernel
theorem dX6_numberIf_53 : decode cX6_numberIf 53 = .ok (.invokevirtual 169, 3) := by decide +kernel
theorem dX6_numberIf_56 : decode cX6_numberIf 56 = .ok (.ifCond .ne 14, 3) := by decide +kernel
theorem dX6_numberIf_59 : decode cX6_numberIf 59 = .ok (.new 75, 3) := by decide +kernel
theorem dX6_numberIf_62 : decode cX6_numberIf 62 = .ok (.dup, 1) := by decide +kernel
theorem dX6_numberIf_63 : decode cX6_numberIf 63 = .ok (.ldc_w 305, 3) := by decide +kernel
theorem dX6_numberIf_66 : decode cX6_numberIf 66 = .ok (.invokespecial 79, 3) := by decide +kernel
theorem dX6_numberIf_69 : decode cX6_numberIf 69 = .ok (.athrow, 1) := by decide +kernel
theorem dX6_write_0 : decode cX6_write 0 = .ok (.aload_n 0, 1) := by decide +kernel
theorem dX6_write_1 : decode cX6_write 1 = .ok (.getfield 18, 3) := by decide +kernel
theorem dX6_write_4 : decode cX6_write 4 = .ok (.iconst 0, 1) := by decide +kernel
theorem dX6_write_5 : decode cX6_write 5 = .ok (.invokevirtual 68, 3) := by decide +kernel
theorem dX6_write_8 : decode cX6_write 8 = .ok (.iconst 0, 1) := by decide +kernel
theorem dX6_write_9 : decode cX6_write 9 = .ok (.istore_n 1, 1) := by decide +kernel
theorem dX6_write_10 : decode cX6_write 10 = .ok (.iload_n 1, 1) := by decide +kernel
theorem dX6_write_11 : decode cX6_write 11 = .ok (.aload_n 0, 1) := by decide +kernel
theorem dX6_write_12 : decode cX6_write 12 = .ok (.getfield 24, 3) := by decide +kernel
theorem dX6_write_15 : decode cX6_write 15 = .ok (.getfield 107, 3) := by decide +kernel
theorem dX6_write_18 : decode cX6_write 18 = .ok (.invokevirtual 111, 3) := by decide +kernel
theorem dX6_write_21 : decode cX6_write 21 = .ok (.if_icmp .ge 142, 3) := by decide +kernel
theorem dX6_write_24 : decode cX6_write 24 = .ok (.aload_n 0, 1) := by decide +kernel
theorem dX6_write_25 : decode cX6_write 25 = .ok (.getfield 24, 3) := by decide +kernel
theorem dX6_write_28 : decode cX6_write 28 = .ok (.getfield 107, 3) := by decide +kernel
theorem dX6_write_31 : decode cX6_write 31 = .ok (.iload_n 1, 1) := by decide +kernel
theorem dX6_write_32 : decode cX6_write 32 = .ok (.iconst 2, 1) := by decide +kernel
theorem dX6_write_33 : decode cX6_write 33 = .ok (.invokevirtual 173, 3) := by decide +kernel
theorem dX6_write_36 : decode cX6_write 36 = .ok (.istore_n 2, 1) := by decide +kernel
theorem dX6_write_37 : decode cX6_write 37 = .ok (.aload_n 0, 1) := by decide +kernel
theorem dX6_write_38 : decode cX6_write 38 = .ok (.getfield 18, 3) := by decide +kernel
theorem dX6_write_41 : decode cX6_write 41 = .ok (.aload_n 0, 1) := by decide +kernel
theorem dX6_write_42 : decode cX6_write 42 = .ok (.getfield 24, 3) := by decide +kernel
theorem dX6_write_45 : decode cX6_write 45 = .ok (.getfield 107, 3) := by decide +kernel
theorem dX6_write_48 : decode cX6_write 48 = .ok (.iload_n 1, 1) := by decide +kernel
theorem dX6_write_49 : decode cX6_write 49 = .ok (.iconst 5, 1) := by decide +kernel
theorem dX6_write_50 : decode cX6_write 50 = .ok (.invokevirtual 173, 3) := by decide +kernel
theorem dX6_write_53 : decode cX6_write 53 = .ok (.invokevirtual 313, 3) := by decide +kernel
theorem dX6_write_56 : decode cX6_write 56 = .ok (.iload_n 2, 1) := by decide +kernel
theorem dX6_write_57 : decode cX6_write 57 = .ok (.ifCond .eq 20, 3) := by decide +kernel
theorem dX6_write_60 : decode cX6_write 60 = .ok (.aload_n 0, 1) := by decide +kernel
theorem dX6_write_61 : decode cX6_write 61 = .ok (.getfield 18, 3) := by decide +kernel
theorem dX6_write_64 : decode cX6_write 64 = .ok (.bipush 45, 2) := by decide +kernel
theorem dX6_write_66 : decode cX6_write 66 = .ok (.invokevirtual 316, 3) := by decide +kernel
theorem dX6_write_69 : decode cX6_write 69 = .ok (.aload_n 0, 1) := by decide +kernel
theorem dX6_write_70 : decode cX6_write 70 = .ok (.getfield 18, 3) := by decide +kernel
theorem dX6_write_73 : decode cX6_write 73 = .ok (.iload_n 2, 1) := by decide +kernel
theorem dX6_write_74 : decode cX6_write 74 = .ok (.invokevirtual 319, 3) := by decide +kernel
theorem dX6_write_77 : decode cX6_write 77 = .ok (.aload_n 0, 1) := by decide +kernel
theorem dX6_write_78 : decode cX6_write 78 = .ok (.getfield 18, 3) := by decide +kernel
theorem dX6_write_81 : decode cX6_write 81 = .ok (.bipush 46, 2) := by decide +kernel
theorem dX6_write_83 : decode cX6_write 83 = .ok (.invokevirtual 316, 3) := by decide +kernel
theorem dX6_write_86 : decode cX6_write 86 = .ok (.aload_n 0, 1) := by decide +kernel
theorem dX6_write_87 : decode cX6_write 87 = .ok (.getfield 18, 3) := by decide +kernel
theorem dX6_write_90 : decode cX6_write 90 = .ok (.aload_n 0, 1) := by decide +kernel
theorem dX6_write_91 : decode cX6_write 91 = .ok (.getfield 24, 3) := by decide +kernel
theorem dX6_write_94 : decode cX6_write 94 = .ok (.getfield 126, 3) := by decide +kernel
theorem dX6_write_97 : decode cX6_write 97 = .ok (.aload_n 0, 1) := by decide +kernel
theorem dX6_write_98 : decode cX6_write 98 = .ok (.getfield 24, 3) := by decide +kernel
theorem dX6_write_101 : decode cX6_write 101 = .ok (.getfield 107, 3) := by decide +kernel
theorem dX6_write_104 : decode cX6_write 104 = .ok (.iload_n 1, 1) := by decide +kernel
theorem dX6_write_105 : decode cX6_write 105 = .ok (.iconst 1, 1) := by decide +kernel
theorem dX6_write_106 : decode cX6_write 106 = .ok (.invokevirtual 173, 3) := by decide +kernel
theorem dX6_write_109 : decode cX6_write 109 = .ok (.iconst 0, 1) := by decide +kernel
theorem dX6_write_110 : decode cX6_write 110 = .ok (.invokevirtual 173, 3) := by decide +kernel
theorem dX6_write_113 : decode cX6_write 113 = .ok (.invokevirtual 313, 3) := by decide +kernel
theorem dX6_write_116 : decode cX6_write 116 = .ok (.aload_n 0, 1) := by decide +kernel
theorem dX6_write_117 : decode cX6_write 117 = .ok (.getfield 18, 3) := by decide +kernel
theorem dX6_write_120 : decode cX6_write 120 = .ok (.bipush 32, 2) := by decide +kernel
theorem dX6_write_122 : decode cX6_write 122 = .ok (.invokevirtual 316, 3) := by decide +kernel
theorem dX6_write_125 : decode cX6_write 125 = .ok (.aload_n 0, 1) := by decide +kernel
theorem dX6_write_126 : decode cX6_write 126 = .ok (.getfield 18, 3) := by decide +kernel
theorem dX6_write_129 : decode cX6_write 129 = .ok (.aload_n 0, 1) := by decide +kernel
theorem dX6_write_130 : decode cX6_write 130 = .ok (.getfield 24, 3) := by decide +kernel
theorem dX6_write_133 : decode cX6_write 133 = .ok (.getfield 107, 3) := by decide +kernel
theorem dX6_write_136 : decode cX6_write 136 = .ok (.iload_n 1, 1) := by decide +kernel
theorem dX6_write_137 : decode cX6_write 137 = .ok (.bipush 6, 2) := by decide +kernel
theorem dX6_write_139 : decode cX6_write 139 = .ok (.invokevirtual 173, 3) := by decide +kernel
theorem dX6_write_142 : decode cX6_write 142 = .ok (.invokestatic 322, 3) := by decide +kernel
theorem dX6_write_145 : decode cX6_write 145 = .ok (.invokevirtual 316, 3) := by decide +kernel
theorem dX6_write_148 : decode cX6_write 148 = .ok (.aload_n 0, 1) := by decide +kernel
theorem dX6_write_149 : decode cX6_write 149 = .ok (.getfield 18, 3) := by decide +kernel
theorem dX6_write_152 : decode cX6_write 152 = .ok (.bipush 10, 2) := by decide +kernel
theorem dX6_write_154 : decode cX6_write 154 = .ok (.invokevirtual 316, 3) := by decide +kernel
theorem dX6_write_157 : decode cX6_write 157 = .ok (.iinc 1 1, 3) := by decide +kernel
theorem dX6_write_160 : decode cX6_write 160 = .ok (.goto (-150), 3) := by decide +kernel
theorem dX6_write_163 : decode cX6_write 163 = .ok (.aload_n 0, 1) := by decide +kernel
theorem dX6_write_164 : decode cX6_write 164 = .ok (.getfield 18, 3) := by decide +kernel
theorem dX6_write_167 : decode cX6_write 167 = .ok (.invokevirtual 71, 3) := by decide +kernel
theorem dX6_write_170 : decode cX6_write 170 = .ok (.ireturn, 1) := by decide +kernel
theorem dX6_outputByte_0 : decode cX6_outputByte 0 = .ok (.iload_n 1, 1) := by decide +kernel
theorem dX6_outputByte_1 : decode cX6_outputByte 1 = .ok (.ifCond .lt 14, 3) := by decide +kernel
theorem dX6_outputByte_4 : decode cX6_outputByte 4 = .ok (.iload_n 1, 1) := by decide +kernel
theorem dX6_outputByte_5 : decode cX6_outputByte 5 = .ok (.aload_n 0, 1) := by decide +kernel
theorem dX6_outputByte_6 : decode cX6_outputByte 6 = .ok (.getfield 18, 3) := by decide +kernel
theorem dX6_outputByte_9 : decode cX6_outputByte 9 = .ok (.invokevirtual 71, 3) := by decide +kernel
theorem dX6_outputByte_12 : decode cX6_outputByte 12 = .ok (.if_icmp .lt 14, 3) := by decide +kernel
theorem dX6_outputByte_15 : decode cX6_outputByte 15 = .ok (.new 84, 3) := by decide +kernel
theorem dX6_outputByte_18 : decode cX6_outputByte 18 = .ok (.dup, 1) := by decide +kernel
theorem dX6_outputByte_19 : decode cX6_outputByte 19 = .ok (.ldc_w 325, 3) := by decide +kernel
theorem dX6_outputByte_22 : decode cX6_outputByte 22 = .ok (.invokespecial 88, 3) := by decide +kernel
theorem dX6_outputByte_25 : decode cX6_outputByte 25 = .ok (.athrow, 1) := by decide +kernel
theorem dX6_pass_0 : decode cX6_pass 0 = .ok (.iload_n 1, 1) := by decide +kernel
theorem dX6_pass_1 : decode cX6_pass 1 = .ok (.iconst 1, 1) := by decide +kernel
theorem dX6_pass_2 : decode cX6_pass 2 = .ok (.invokestatic 291, 3) := by decide +kernel
theorem dX6_pass_5 : decode cX6_pass 5 = .ok (.aload_n 0, 1) := by decide +kernel
theorem dX6_pass_6 : decode cX6_pass 6 = .ok (.getfield 24, 3) := by decide +kernel
theorem dX6_pass_9 : decode cX6_pass 9 = .ok (.getfield 134, 3) := by decide +kernel
theorem dX6_pass_12 : decode cX6_pass 12 = .ok (.iload_n 1, 1) := by decide +kernel
theorem dX6_pass_13 : decode cX6_pass 13 = .ok (.iadd, 1) := by decide +kernel
theorem dX6_pass_14 : decode cX6_pass 14 = .ok (.sipush 5000, 3) := by decide +kernel
theorem dX6_pass_17 : decode cX6_pass 17 = .ok (.if_icmp .le 14, 3) := by decide +kernel
theorem dX6_pass_20 : decode cX6_pass 20 = .ok (.new 75, 3) := by decide +kernel
theorem dX6_pass_23 : decode cX6_pass 23 = .ok (.dup, 1) := by decide +kernel
theorem dX6_pass_24 : decode cX6_pass 24 = .ok (.ldc_w 330, 3) := by decide +kernel
theorem dX6_pass_27 : decode cX6_pass 27 = .ok (.invokespecial 79, 3) := by decide +kernel
theorem dX6_pass_30 : decode cX6_pass 30 = .ok (.athrow, 1) := by decide +kernel
theorem dX6_pass_31 : decode cX6_pass 31 = .ok (.aload_n 0, 1) := by decide +kernel
theorem dX6_pass_32 : decode cX6_pass 32 = .ok (.getfield 34, 3) := by decide +kernel
theorem dX6_pass_35 : decode cX6_pass 35 = .ok (.aload_n 0, 1) := by decide +kernel
theorem dX6_pass_36 : decode cX6_pass 36 = .ok (.getfield 24, 3) := by decide +kernel
theorem dX6_pass_39 : decode cX6_pass 39 = .ok (.invokevirtual 332, 3) := by decide +kernel
theorem dX6_pass_42 : decode cX6_pass 42 = .ok (.aload_n 0, 1) := by decide +kernel
theorem dX6_pass_43 : decode cX6_pass 43 = .ok (.getfield 24, 3) := by decide +kernel
theorem dX6_pass_46 : decode cX6_pass 46 = .ok (.getfield 137, 3) := by decide +kernel
theorem dX6_pass_49 : decode cX6_pass 49 = .ok (.lstore_n 2, 1) := by decide +kernel
theorem dX6_pass_50 : decode cX6_pass 50 = .ok (.iconst 0, 1) := by decide +kernel
theorem dX6_pass_51 : decode cX6_pass 51 = .ok (.istore 4, 2) := by decide +kernel
theorem dX6_pass_53 : decode cX6_pass 53 = .ok (.iload 4, 2) := by decide +kernel
theorem dX6_pass_55 : decode cX6_pass 55 = .ok (.iload_n 1, 1) := by decide +kernel
theorem dX6_pass_56 : decode cX6_pass 56 = .ok (.if_icmp .ge 16, 3) := by decide +kernel
theorem dX6_pass_59 : decode cX6_pass 59 = .ok (.aload_n 0, 1) := by decide +kernel
theorem dX6_pass_60 : decode cX6_pass 60 = .ok (.getfield 24, 3) := by decide +kernel
theorem dX6_pass_63 : decode cX6_pass 63 = .ok (.invokevirtual 286, 3) := by decide +kernel
theorem dX6_pass_66 : decode cX6_pass 66 = .ok (.iinc 4 1, 3) := by decide +kernel
theorem dX6_pass_69 : decode cX6_pass 69 = .ok (.goto (-16), 3) := by decide +kernel
theorem dX6_pass_72 : decode cX6_pass 72 = .ok (.aload_n 0, 1) := by decide +kernel
theorem dX6_pass_73 : decode cX6_pass 73 = .ok (.getfield 24, 3) := by decide +kernel
theorem dX6_pass_76 : decode cX6_pass 76 = .ok (.getfield 137, 3) := by decide +kernel
theorem dX6_pass_79 : decode cX6_pass 79 = .ok (.lload_n 2, 1) := by decide +kernel
theorem dX6_pass_80 : decode cX6_pass 80 = .ok (.lsub, 1) := by decide +kernel
theorem dX6_pass_81 : decode cX6_pass 81 = .ok (.invokestatic 141, 3) := by decide +kernel
theorem dX6_pass_84 : decode cX6_pass 84 = .ok (.ireturn, 1) := by decide +kernel
theorem dX6_add_0 : decode cX6_add 0 = .ok (.aload_n 0, 1) := by decide +kernel
theorem dX6_add_1 : decode cX6_add 1 = .ok (.getfield 14, 3) := by decide +kernel
theorem dX6_add_4 : decode cX6_add 4 = .ok (.invokevirtual 114, 3) := by decide +kernel
theorem dX6_add_7 : decode cX6_add 7 = .ok (.istore 5, 2) := by decide +kernel
theorem dX6_add_9 : decode cX6_add 9 = .ok (.aload_n 0, 1) := by decide +kernel
theorem dX6_add_10 : decode cX6_add 10 = .ok (.getfield 14, 3) := by decide +kernel
theorem dX6_add_13 : decode cX6_add 13 = .ok (.iconst 0, 1) := by decide +kernel
theorem dX6_add_14 : decode cX6_add 14 = .ok (.invokevirtual 68, 3) := by decide +kernel
theorem dX6_add_17 : decode cX6_add 17 = .ok (.aload_n 0, 1) := by decide +kernel
theorem dX6_add_18 : decode cX6_add 18 = .ok (.iload_n 1, 1) := by decide +kernel
theorem dX6_add_19 : decode cX6_add 19 = .ok (.invokevirtual 166, 3) := by decide +kernel
theorem dX6_add_22 : decode cX6_add 22 = .ok (.aload_n 0, 1) := by decide +kernel
theorem dX6_add_23 : decode cX6_add 23 = .ok (.iload_n 2, 1) := by decide +kernel
theorem dX6_add_24 : decode cX6_add 24 = .ok (.invokevirtual 210, 3) := by decide +kernel
theorem dX6_add_27 : decode cX6_add 27 = .ok (.iload_n 3, 1) := by decide +kernel
theorem dX6_add_28 : decode cX6_add 28 = .ok (.invokestatic 298, 3) := by decide +kernel
theorem dX6_add_31 : decode cX6_add 31 = .ok (.iload 4, 2) := by decide +kernel
theorem dX6_add_33 : decode cX6_add 33 = .ok (.bipush 20, 2) := by decide +kernel
theorem dX6_add_35 : decode cX6_add 35 = .ok (.if_icmp .lt 17, 3) := by decide +kernel
theorem dX6_add_38 : decode cX6_add 38 = .ok (.iload 4, 2) := by decide +kernel
theorem dX6_add_40 : decode cX6_add 40 = .ok (.sipush 1000, 3) := by decide +kernel
theorem dX6_add_43 : decode cX6_add 43 = .ok (.if_icmp .gt 9, 3) := by decide +kernel
theorem dX6_add_46 : decode cX6_add 46 = .ok (.iload 5, 2) := by decide +kernel
theorem dX6_add_48 : decode cX6_add 48 = .ok (.iconst (-1), 1) := by decide +kernel
theorem dX6_add_49 : decode cX6_add 49 = .ok (.if_icmp .ne 14, 3) := by decide +kernel
theorem dX6_add_52 : decode cX6_add 52 = .ok (.new 95, 3) := by decide +kernel
theorem dX6_add_55 : decode cX6_add 55 = .ok (.dup, 1) := by decide +kernel
theorem dX6_add_56 : decode cX6_add 56 = .ok (.ldc_w 335, 3) := by decide +kernel
theorem dX6_add_59 : decode cX6_add 59 = .ok (.invokespecial 99, 3) := by decide +kernel
theorem dX6_add_62 : decode cX6_add 62 = .ok (.athrow, 1) := by decide +kernel
theorem dX6_withdraw_0 : decode cX6_withdraw 0 = .ok (.aload_n 0, 1) := by decide +kernel
theorem dX6_withdraw_1 : decode cX6_withdraw 1 = .ok (.iload_n 1, 1) := by decide +kernel
theorem dX6_withdraw_2 : decode cX6_withdraw 2 = .ok (.invokevirtual 189, 3) := by decide +kernel
theorem dX6_withdraw_5 : decode cX6_withdraw 5 = .ok (.aload_n 0, 1) := by decide +kernel
theorem dX6_withdraw_6 : decode cX6_withdraw 6 = .ok (.getfield 24, 3) := by decide +kernel
theorem dX6_withdraw_9 : decode cX6_withdraw 9 = .ok (.getfield 107, 3) := by decide +kernel
theorem dX6_withdraw_12 : decode cX6_withdraw 12 = .ok (.iload_n 1, 1) := by decide +kernel
theorem dX6_withdraw_13 : decode cX6_withdraw 13 = .ok (.bipush 6, 2) := by decide +kernel
theorem dX6_withdraw_15 : decode cX6_withdraw 15 = .ok (.invokevirtual 173, 3) := by decide +kernel
theorem dX6_withdraw_18 : decode cX6_withdraw 18 = .ok (.istore_n 2, 1) := by decide +kernel
theorem dX6_withdraw_19 : decode cX6_withdraw 19 = .ok (.iload_n 2, 1) := by decide +kernel
theorem dX6_withdraw_20 : decode cX6_withdraw 20 = .ok (.iconst 3, 1) := by decide +kernel
theorem dX6_withdraw_21 : decode cX6_withdraw 21 = .ok (.if_icmp .ne 14, 3) := by decide +kernel
theorem dX6_withdraw_24 : decode cX6_withdraw 24 = .ok (.new 75, 3) := by decide +kernel
theorem dX6_withdraw_27 : decode cX6_withdraw 27 = .ok (.dup, 1) := by decide +kernel
theorem dX6_withdraw_28 : decode cX6_withdraw 28 = .ok (.ldc_w 339, 3) := by decide +kernel
theorem dX6_withdraw_31 : decode cX6_withdraw 31 = .ok (.invokespecial 79, 3) := by decide +kernel
theorem dX6_withdraw_34 : decode cX6_withdraw 34 = .ok (.athrow, 1) := by decide +kernel
theorem dX6_withdraw_35 : decode cX6_withdraw 35 = .ok (.aload_n 0, 1) := by decide +kernel
theorem dX6_withdraw_36 : decode cX6_withdraw 36 = .ok (.getfield 34, 3) := by decide +kernel
theorem dX6_withdraw_39 : decode cX6_withdraw 39 = .ok (.aload_n 0, 1) := by decide +kernel
theorem dX6_withdraw_40 : decode cX6_withdraw 40 = .ok (.getfield 24, 3) := by decide +kernel
theorem dX6_withdraw_43 : decode cX6_withdraw 43 = .ok (.invokevirtual 332, 3) := by decide +kernel
theorem dX6_withdraw_46 : decode cX6_withdraw 46 = .ok (.aload_n 0, 1) := by decide +kernel
theorem dX6_withdraw_47 : decode cX6_withdraw 47 = .ok (.getfield 24, 3) := by decide +kernel
theorem dX6_withdraw_50 : decode cX6_withdraw 50 = .ok (.iload_n 1, 1) := by decide +kernel
theorem dX6_withdraw_51 : decode cX6_withdraw 51 = .ok (.invokevirtual 341, 3) := by decide +kernel
theorem dX6_withdraw_54 : decode cX6_withdraw 54 = .ok (.iload_n 2, 1) := by decide +kernel
theorem dX6_withdraw_55 : decode cX6_withdraw 55 = .ok (.ireturn, 1) := by decide +kernel
theorem dX6_setPort_0 : decode cX6_setPort 0 = .ok (.aload_n 0, 1) := by decide +kernel
theorem dX6_setPort_1 : decode cX6_setPort 1 = .ok (.iload_n 1, 1) := by decide +kernel
theorem dX6_setPort_2 : decode cX6_setPort 2 = .ok (.invokevirtual 189, 3) := by decide +kernel
theorem dX6_setPort_5 : decode cX6_setPort 5 = .ok (.iload_n 2, 1) := by decide +kernel
theorem dX6_setPort_6 : decode cX6_setPort 6 = .ok (.invokestatic 298, 3) := by decide +kernel
theorem dX6_setPort_9 : decode cX6_setPort 9 = .ok (.aload_n 0, 1) := by decide +kernel
theorem dX6_setPort_10 : decode cX6_setPort 10 = .ok (.getfield 34, 3) := by decide +kernel
theorem dX6_setPort_13 : decode cX6_setPort 13 = .ok (.aload_n 0, 1) := by decide +kernel
theorem dX6_setPort_14 : decode cX6_setPort 14 = .ok (.getfield 24, 3) := by decide +kernel
theorem dX6_setPort_17 : decode cX6_setPort 17 = .ok (.invokevirtual 332, 3) := by decide +kernel
theorem dX6_setPort_20 : decode cX6_setPort 20 = .ok (.aload_n 0, 1) := by decide +kernel
theorem dX6_setPort_21 : decode cX6_setPort 21 = .ok (.getfield 24, 3) := by decide +kernel
theorem dX6_setPort_24 : decode cX6_setPort 24 = .ok (.getfield 107, 3) := by decide +kernel
theorem dX6_setPort_27 : decode cX6_setPort 27 = .ok (.iload_n 1, 1) := by decide +kernel
theorem dX6_setPort_28 : decode cX6_setPort 28 = .ok (.iconst 3, 1) := by decide +kernel
theorem dX6_setPort_29 : decode cX6_setPort 29 = .ok (.invokevirtual 173, 3) := by decide +kernel
theorem dX6_setPort_32 : decode cX6_setPort 32 = .ok (.istore_n 3, 1) := by decide +kernel
theorem dX6_setPort_33 : decode cX6_setPort 33 = .ok (.aload_n 0, 1) := by decide +kernel
theorem dX6_setPort_34 : decode cX6_setPort 34 = .ok (.getfield 24, 3) := by decide +kernel
theorem dX6_setPort_37 : decode cX6_setPort 37 = .ok (.iload_n 1, 1) := by decide +kernel
theorem dX6_setPort_38 : decode cX6_setPort 38 = .ok (.iload_n 2, 1) := by decide +kernel
theorem dX6_setPort_39 : decode cX6_setPort 39 = .ok (.invokevirtual 344, 3) := by decide +kernel
theorem dX6_setPort_42 : decode cX6_setPort 42 = .ok (.iload_n 3, 1) := by decide +kernel
theorem dX6_setPort_43 : decode cX6_setPort 43 = .ok (.ireturn, 1) := by decide +kernel
theorem dX6_setOn_0 : decode cX6_setOn 0 = .ok (.aload_n 0, 1) := by decide +kernel
theorem dX6_setOn_1 : decode cX6_setOn 1 = .ok (.iload_n 1, 1) := by decide +kernel
theorem dX6_setOn_2 : decode cX6_setOn 2 = .ok (.invokevirtual 166, 3) := by decide +kernel
theorem dX6_setOn_5 : decode cX6_setOn 5 = .ok (.aload_n 0, 1) := by decide +kernel
theorem dX6_setOn_6 : decode cX6_setOn 6 = .ok (.getfield 34, 3) := by decide +kernel
theorem dX6_setOn_9 : decode cX6_setOn 9 = .ok (.aload_n 0, 1) := by decide +kernel
theorem dX6_setOn_10 : decode cX6_setOn 10 = .ok (.getfield 24, 3) := by decide +kernel
theorem dX6_setOn_13 : decode cX6_setOn 13 = .ok (.invokevirtual 332, 3) := by decide +kernel
theorem dX6_setOn_16 : decode cX6_setOn 16 = .ok (.iload_n 2, 1) := by decide +kernel
theorem dX6_setOn_17 : decode cX6_setOn 17 = .ok (.ifCond .eq 22, 3) := by decide +kernel
theorem dX6_setOn_20 : decode cX6_setOn 20 = .ok (.aload_n 0, 1) := by decide +kernel
theorem dX6_setOn_21 : decode cX6_setOn 21 = .ok (.getfield 24, 3) := by decide +kernel
theorem dX6_setOn_24 : decode cX6_setOn 24 = .ok (.iload_n 1, 1) := by decide +kernel
theorem dX6_setOn_25 : decode cX6_setOn 25 = .ok (.invokevirtual 169, 3) := by decide +kernel
theorem dX6_setOn_28 : decode cX6_setOn 28 = .ok (.ifCond .ne 11, 3) := by decide +kernel
theorem dX6_setOn_31 : decode cX6_setOn 31 = .ok (.aload_n 0, 1) := by decide +kernel
theorem dX6_setOn_32 : decode cX6_setOn 32 = .ok (.getfield 24, 3) := by decide +kernel
theorem dX6_setOn_35 : decode cX6_setOn 35 = .ok (.iload_n 1, 1) := by decide +kernel
theorem dX6_setOn_36 : decode cX6_setOn 36 = .ok (.invokevirtual 347, 3) := by decide +kernel
theorem dX6_setOn_39 : decode cX6_setOn 39 = .ok (.iload_n 2, 1) := by decide +kernel
theorem dX6_setOn_40 : decode cX6_setOn 40 = .ok (.ifCond .ne 23, 3) := by decide +kernel
theorem dX6_setOn_43 : decode cX6_setOn 43 = .ok (.aload_n 0, 1) := by decide +kernel
theorem dX6_setOn_44 : decode cX6_setOn 44 = .ok (.getfield 24, 3) := by decide +kernel
theorem dX6_setOn_47 : decode cX6_setOn 47 = .ok (.iload_n 1, 1) := by decide +kernel
theorem dX6_setOn_48 : decode cX6_setOn 48 = .ok (.invokevirtual 169, 3) := by decide +kernel
theorem dX6_setOn_51 : decode cX6_setOn 51 = .ok (.ifCond .eq 12, 3) := by decide +kernel
theorem dX6_setOn_54 : decode cX6_setOn 54 = .ok (.aload_n 0, 1) := by decide +kernel
theorem dX6_setOn_55 : decode cX6_setOn 55 = .ok (.getfield 24, 3) := by decide +kernel
theorem dX6_setOn_58 : decode cX6_setOn 58 = .ok (.iload_n 1, 1) := by decide +kernel
theorem dX6_setOn_59 : decode cX6_setOn 59 = .ok (.iload_n 3, 1) := by decide +kernel
theorem dX6_setOn_60 : decode cX6_setOn 60 = .ok (.invokevirtual 350, 3) := by decide +kernel
theorem dX6_setOn_63 : decode cX6_setOn 63 = .ok (.aload_n 0, 1) := by decide +kernel
theorem dX6_setOn_64 : decode cX6_setOn 64 = .ok (.getfield 24, 3) := by decide +kernel
theorem dX6_setOn_67 : decode cX6_setOn 67 = .ok (.invokevirtual 354, 3) := by decide +kernel
theorem dX6_setOn_70 : decode cX6_setOn 70 = .ok (.ireturn, 1) := by decide +kernel
theorem dX6_setSide_0 : decode cX6_setSide 0 = .ok (.aload_n 0, 1) := by decide +kernel
theorem dX6_setSide_1 : decode cX6_setSide 1 = .ok (.iload_n 1, 1) := by decide +kernel
theorem dX6_setSide_2 : decode cX6_setSide 2 = .ok (.invokevirtual 166, 3) := by decide +kernel
theorem dX6_setSide_5 : decode cX6_setSide 5 = .ok (.iload_n 2, 1) := by decide +kernel
theorem dX6_setSide_6 : decode cX6_setSide 6 = .ok (.ifCond .eq 19, 3) := by decide +kernel
theorem dX6_setSide_9 : decode cX6_setSide 9 = .ok (.iload_n 2, 1) := by decide +kernel
theorem dX6_setSide_10 : decode cX6_setSide 10 = .ok (.iconst 1, 1) := by decide +kernel
theorem dX6_setSide_11 : decode cX6_setSide 11 = .ok (.if_icmp .eq 14, 3) := by decide +kernel
theorem dX6_setSide_14 : decode cX6_setSide 14 = .ok (.new 95, 3) := by decide +kernel
theorem dX6_setSide_17 : decode cX6_setSide 17 = .ok (.dup, 1) := by decide +kernel
theorem dX6_setSide_18 : decode cX6_setSide 18 = .ok (.ldc_w 357, 3) := by decide +kernel
theorem dX6_setSide_21 : decode cX6_setSide 21 = .ok (.invokespecial 99, 3) := by decide +kernel
theorem dX6_setSide_24 : decode cX6_setSide 24 = .ok (.athrow, 1) := by decide +kernel
theorem dX6_setSide_25 : decode cX6_setSide 25 = .ok (.aload_n 0, 1) := by decide +kernel
theorem dX6_setSide_26 : decode cX6_setSide 26 = .ok (.getfield 34, 3) := by decide +kernel
theorem dX6_setSide_29 : decode cX6_setSide 29 = .ok (.aload_n 0, 1) := by decide +kernel
theorem dX6_setSide_30 : decode cX6_setSide 30 = .ok (.getfield 24, 3) := by decide +kernel
theorem dX6_setSide_33 : decode cX6_setSide 33 = .ok (.invokevirtual 332, 3) := by decide +kernel
theorem dX6_setSide_36 : decode cX6_setSide 36 = .ok (.aload_n 0, 1) := by decide +kernel
theorem dX6_setSide_37 : decode cX6_setSide 37 = .ok (.getfield 24, 3) := by decide +kernel
theorem dX6_setSide_40 : decode cX6_setSide 40 = .ok (.getfield 119, 3) := by decide +kernel
theorem dX6_setSide_43 : decode cX6_setSide 43 = .ok (.iload_n 1, 1) := by decide +kernel
theorem dX6_setSide_44 : decode cX6_setSide 44 = .ok (.iconst 2, 1) := by decide +kernel
theorem dX6_setSide_45 : decode cX6_setSide 45 = .ok (.invokevirtual 173, 3) := by decide +kernel
theorem dX6_setSide_48 : decode cX6_setSide 48 = .ok (.istore_n 3, 1) := by decide +kernel
theorem dX6_setSide_49 : decode cX6_setSide 49 = .ok (.aload_n 0, 1) := by decide +kernel
theorem dX6_setSide_50 : decode cX6_setSide 50 = .ok (.getfield 24, 3) := by decide +kernel
theorem dX6_setSide_53 : decode cX6_setSide 53 = .ok (.getfield 119, 3) := by decide +kernel
theorem dX6_setSide_56 : decode cX6_setSide 56 = .ok (.iload_n 1, 1) := by decide +kernel
theorem dX6_setSide_57 : decode cX6_setSide 57 = .ok (.iconst 2, 1) := by decide +kernel
theorem dX6_setSide_58 : decode cX6_setSide 58 = .ok (.iload_n 2, 1) := by decide +kernel
theorem dX6_setSide_59 : decode cX6_setSide 59 = .ok (.invokevirtual 359, 3) := by decide +kernel
theorem dX6_setSide_62 : decode cX6_setSide 62 = .ok (.iload_n 3, 1) := by decide +kernel
theorem dX6_setSide_63 : decode cX6_setSide 63 = .ok (.ireturn, 1) := by decide +kernel
theorem dX6_browse_0 : decode cX6_browse 0 = .ok (.aload_n 0, 1) := by decide +kernel
theorem dX6_browse_1 : decode cX6_browse 1 = .ok (.iload_n 1, 1) := by decide +kernel
theorem dX6_browse_2 : decode cX6_browse 2 = .ok (.invokevirtual 166, 3) := by decide +kernel
theorem dX6_browse_5 : decode cX6_browse 5 = .ok (.aload_n 0, 1) := by decide +kernel
theorem dX6_browse_6 : decode cX6_browse 6 = .ok (.iload_n 2, 1) := by decide +kernel
theorem dX6_browse_7 : decode cX6_browse 7 = .ok (.invokevirtual 210, 3) := by decide +kernel
theorem dX6_browse_10 : decode cX6_browse 10 = .ok (.iload_n 3, 1) := by decide +kernel
theorem dX6_browse_11 : decode cX6_browse 11 = .ok (.ifCond .eq 25, 3) := by decide +kernel
theorem dX6_browse_14 : decode cX6_browse 14 = .ok (.aload_n 0, 1) := by decide +kernel
theorem dX6_browse_15 : decode cX6_browse 15 = .ok (.getfield 24, 3) := by decide +kernel
theorem dX6_browse_18 : decode cX6_browse 18 = .ok (.iload_n 1, 1) := by decide +kernel
theorem dX6_browse_19 : decode cX6_browse 19 = .ok (.invokevirtual 169, 3) := by decide +kernel
theorem dX6_browse_22 : decode cX6_browse 22 = .ok (.ifCond .ne 14, 3) := by decide +kernel
theorem dX6_browse_25 : decode cX6_browse 25 = .ok (.new 75, 3) := by decide +kernel
theorem dX6_browse_28 : decode cX6_browse 28 = .ok (.dup, 1) := by decide +kernel
theorem dX6_browse_29 : decode cX6_browse 29 = .ok (.ldc_w 362, 3) := by decide +kernel
theorem dX6_browse_32 : decode cX6_browse 32 = .ok (.invokespecial 79, 3) := by decide +kernel
theorem dX6_browse_35 : decode cX6_browse 35 = .ok (.athrow, 1) := by decide +kernel
theorem dX6_browse_36 : decode cX6_browse 36 = .ok (.aload_n 0, 1) := by decide +kernel
theorem dX6_browse_37 : decode cX6_browse 37 = .ok (.getfield 34, 3) := by decide +kernel
theorem dX6_browse_40 : decode cX6_browse 40 = .ok (.aload_n 0, 1) := by decide +kernel
theorem dX6_browse_41 : decode cX6_browse 41 = .ok (.getfield 24, 3) := by decide +kernel
theorem dX6_browse_44 : decode cX6_browse 44 = .ok (.invokevirtual 332, 3) := by decide +kernel
theorem dX6_browse_47 : decode cX6_browse 47 = .ok (.iload_n 3, 1) := by decide +kernel
theorem dX6_browse_48 : decode cX6_browse 48 = .ok (.ifCond .eq 24, 3) := by decide +kernel
theorem dX6_browse_51 : decode cX6_browse 51 = .ok (.aload_n 0, 1) := by decide +kernel
theorem dX6_browse_52 : decode cX6_browse 52 = .ok (.getfield 24, 3) := by decide +kernel
theorem dX6_browse_55 : decode cX6_browse 55 = .ok (.iload_n 1, 1) := by decide +kernel
theorem dX6_browse_56 : decode cX6_browse 56 = .ok (.iload_n 2, 1) := by decide +kernel
theorem dX6_browse_57 : decode cX6_browse 57 = .ok (.invokevirtual 215, 3) := by decide +kernel
theorem dX6_browse_60 : decode cX6_browse 60 = .ok (.ifCond .ne 12, 3) := by decide +kernel
theorem dX6_browse_63 : decode cX6_browse 63 = .ok (.aload_n 0, 1) := by decide +kernel
theorem dX6_browse_64 : decode cX6_browse 64 = .ok (.getfield 24, 3) := by decide +kernel
theorem dX6_browse_67 : decode cX6_browse 67 = .ok (.iload_n 1, 1) := by decide +kernel
theorem dX6_browse_68 : decode cX6_browse 68 = .ok (.iload_n 2, 1) := by decide +kernel
theorem dX6_browse_69 : decode cX6_browse 69 = .ok (.invokevirtual 364, 3) := by decide +kernel
theorem dX6_browse_72 : decode cX6_browse 72 = .ok (.iload_n 3, 1) := by decide +kernel
theorem dX6_browse_73 : decode cX6_browse 73 = .ok (.ifCond .ne 12, 3) := by decide +kernel
theorem dX6_browse_76 : decode cX6_browse 76 = .ok (.aload_n 0, 1) := by decide +kernel
theorem dX6_browse_77 : decode cX6_browse 77 = .ok (.getfield 24, 3) := by decide +kernel
theorem dX6_browse_80 : decode cX6_browse 80 = .ok (.iload_n 1, 1) := by decide +kernel
theorem dX6_browse_81 : decode cX6_browse 81 = .ok (.iload_n 2, 1) := by decide +kernel
theorem dX6_browse_82 : decode cX6_browse 82 = .ok (.invokevirtual 367, 3) := by decide +kernel
theorem dX6_browse_85 : decode cX6_browse 85 = .ok (.aload_n 0, 1) := by decide +kernel
theorem dX6_browse_86 : decode cX6_browse 86 = .ok (.getfield 24, 3) := by decide +kernel
theorem dX6_browse_89 : decode cX6_browse 89 = .ok (.iload_n 1, 1) := by decide +kernel
theorem dX6_browse_90 : decode cX6_browse 90 = .ok (.invokevirtual 184, 3) := by decide +kernel
theorem dX6_browse_93 : decode cX6_browse 93 = .ok (.ireturn, 1) := by decide +kernel
theorem dX6_mark_0 : decode cX6_mark 0 = .ok (.iload_n 1, 1) := by decide +kernel
theorem dX6_mark_1 : decode cX6_mark 1 = .ok (.invokestatic 248, 3) := by decide +kernel
theorem dX6_mark_4 : decode cX6_mark 4 = .ok (.iload_n 1, 1) := by decide +kernel
theorem dX6_mark_5 : decode cX6_mark 5 = .ok (.i2l, 1) := by decide +kernel
theorem dX6_mark_6 : decode cX6_mark 6 = .ok (.aload_n 0, 1) := by decide +kernel
theorem dX6_mark_7 : decode cX6_mark 7 = .ok (.getfield 24, 3) := by decide +kernel
theorem dX6_mark_10 : decode cX6_mark 10 = .ok (.getfield 137, 3) := by decide +kernel
theorem dX6_mark_13 : decode cX6_mark 13 = .ok (.lcmp, 1) := by decide +kernel
theorem dX6_mark_14 : decode cX6_mark 14 = .ok (.ifCond .lt 34, 3) := by decide +kernel
theorem dX6_mark_17 : decode cX6_mark 17 = .ok (.aload_n 0, 1) := by decide +kernel
theorem dX6_mark_18 : decode cX6_mark 18 = .ok (.getfield 24, 3) := by decide +kernel
theorem dX6_mark_21 : decode cX6_mark 21 = .ok (.getfield 251, 3) := by decide +kernel
theorem dX6_mark_24 : decode cX6_mark 24 = .ok (.iconst 0, 1) := by decide +kernel
theorem dX6_mark_25 : decode cX6_mark 25 = .ok (.iload_n 1, 1) := by decide +kernel
theorem dX6_mark_26 : decode cX6_mark 26 = .ok (.invokevirtual 122, 3) := by decide +kernel
theorem dX6_mark_29 : decode cX6_mark 29 = .ok (.iconst (-1), 1) := by decide +kernel
theorem dX6_mark_30 : decode cX6_mark 30 = .ok (.if_icmp .ne 18, 3) := by decide +kernel
theorem dX6_mark_33 : decode cX6_mark 33 = .ok (.aload_n 0, 1) := by decide +kernel
theorem dX6_mark_34 : decode cX6_mark 34 = .ok (.getfield 24, 3) := by decide +kernel
theorem dX6_mark_37 : decode cX6_mark 37 = .ok (.getfield 251, 3) := by decide +kernel
theorem dX6_mark_40 : decode cX6_mark 40 = .ok (.invokevirtual 111, 3) := by decide +kernel
theorem dX6_mark_43 : decode cX6_mark 43 = .ok (.bipush 30, 2) := by decide +kernel
theorem dX6_mark_45 : decode cX6_mark 45 = .ok (.if_icmp .lt 14, 3) := by decide +kernel
theorem dX6_mark_59 : decode cX6_mark 59 = .ok (.aload_n 0, 1) := by decide +kernel
theorem dX6_mark_60 : decode cX6_mark 60 = .ok (.getfield 34, 3) := by decide +kernel
theorem dX6_mark_63 : decode cX6_mark 63 = .ok (.aload_n 0, 1) := by decide +kernel
theorem dX6_mark_64 : decode cX6_mark 64 = .ok (.getfield 24, 3) := by decide +kernel
theorem dX6_mark_67 : decode cX6_mark 67 = .ok (.invokevirtual 332, 3) := by decide +kernel
theorem dX6_mark_70 : decode cX6_mark 70 = .ok (.aload_n 0, 1) := by decide +kernel
theorem dX6_mark_71 : decode cX6_mark 71 = .ok (.getfield 24, 3) := by decide +kernel
theorem dX6_mark_74 : decode cX6_mark 74 = .ok (.iload_n 1, 1) := by decide +kernel
theorem dX6_mark_75 : decode cX6_mark 75 = .ok (.invokevirtual 372, 3) := by decide +kernel
theorem dX6_mark_78 : decode cX6_mark 78 = .ok (.aload_n 0, 1) := by decide +kernel
theorem dX6_mark_79 : decode cX6_mark 79 = .ok (.getfield 24, 3) := by decide +kernel
theorem dX6_mark_82 : decode cX6_mark 82 = .ok (.getfield 251, 3) := by decide +kernel
theorem dX6_mark_85 : decode cX6_mark 85 = .ok (.invokevirtual 111, 3) := by decide +kernel
theorem dX6_mark_88 : decode cX6_mark 88 = .ok (.ireturn, 1) := by decide +kernel
theorem dX6_undo_0 : decode cX6_undo 0 = .ok (.aload_n 0, 1) := by decide +kernel
theorem dX6_undo_1 : decode cX6_undo 1 = .ok (.getfield 34, 3) := by decide +kernel
theorem dX6_undo_4 : decode cX6_undo 4 = .ok (.invokevirtual 163, 3) := by decide +kernel
theorem dX6_undo_7 : decode cX6_undo 7 = .ok (.ifCond .ne 14, 3) := by decide +kernel
theorem dX6_undo_10 : decode cX6_undo 10 = .ok (.new 75, 3) := by decide +kernel
theorem dX6_undo_13 : decode cX6_undo 13 = .ok (.dup, 1) := by decide +kernel
theorem dX6_undo_14 : decode cX6_undo 14 = .ok (.ldc_w 375, 3) := by decide +kernel
theorem dX6_undo_17 : decode cX6_undo 17 = .ok (.invokespecial 79, 3) := by decide +kernel
theorem dX6_undo_20 : decode cX6_undo 20 = .ok (.athrow, 1) := by decide +kernel
theorem dX6_save_0 : decode cX6_save 0 = .ok (.aload_n 0, 1) := by decide +kernel
theorem dX6_save_1 : decode cX6_save 1 = .ok (.iload_n 1, 1) := by decide +kernel
theorem dX6_save_2 : decode cX6_save 2 = .ok (.invokevirtual 380, 3) := by decide +kernel
theorem dX6_save_5 : decode cX6_save 5 = .ok (.aload_n 0, 1) := by decide +kernel
theorem dX6_save_6 : decode cX6_save 6 = .ok (.getfield 38, 3) := by decide +kernel
theorem dX6_save_9 : decode cX6_save 9 = .ok (.iload_n 1, 1) := by decide +kernel
theorem dX6_save_10 : decode cX6_save 10 = .ok (.aaload, 1) := by decide +kernel
theorem dX6_save_11 : decode cX6_save 11 = .ok (.astore_n 2, 1) := by decide +kernel
theorem dX6_save_12 : decode cX6_save 12 = .ok (.aload_n 2, 1) := by decide +kernel
theorem dX6_save_13 : decode cX6_save 13 = .ok (.ifnull 18, 3) := by decide +kernel
theorem dX6_save_16 : decode cX6_save 16 = .ok (.aload_n 2, 1) := by decide +kernel
theorem dX6_save_17 : decode cX6_save 17 = .ok (.aload_n 0, 1) := by decide +kernel
theorem dX6_save_18 : decode cX6_save 18 = .ok (.getfield 24, 3) := by decide +kernel
theorem dX6_save_21 : decode cX6_save 21 = .ok (.invokevirtual 100, 3) := by decide +kernel
theorem dX6_save_24 : decode cX6_save 24 = .ok (.aload_n 0, 1) := by decide +kernel
theorem dX6_save_25 : decode cX6_save 25 = .ok (.getfield 42, 3) := by decide +kernel
theorem dX6_save_28 : decode cX6_save 28 = .ok (.iload_n 1, 1) := by decide +kernel
theorem dX6_save_29 : decode cX6_save 29 = .ok (.iconst 1, 1) := by decide +kernel
theorem dX6_save_30 : decode cX6_save 30 = .ok (.bastore, 1) := by decide +kernel
theorem dX6_save_31 : decode cX6_save 31 = .ok (.return_, 1) := by decide +kernel
theorem dX6_restore_0 : decode cX6_restore 0 = .ok (.aload_n 0, 1) := by decide +kernel
theorem dX6_restore_1 : decode cX6_restore 1 = .ok (.iload_n 1, 1) := by decide +kernel
theorem dX6_restore_2 : decode cX6_restore 2 = .ok (.invokevirtual 380, 3) := by decide +kernel
theorem dX6_restore_5 : decode cX6_restore 5 = .ok (.aload_n 0, 1) := by decide +kernel
theorem dX6_restore_6 : decode cX6_restore 6 = .ok (.getfield 38, 3) := by decide +kernel
theorem dX6_restore_9 : decode cX6_restore 9 = .ok (.iload_n 1, 1) := by decide +kernel
theorem dX6_restore_10 : decode cX6_restore 10 = .ok (.aaload, 1) := by decide +kernel
theorem dX6_restore_11 : decode cX6_restore 11 = .ok (.astore_n 2, 1) := by decide +kernel
theorem dX6_restore_12 : decode cX6_restore 12 = .ok (.aload_n 2, 1) := by decide +kernel
theorem dX6_restore_13 : decode cX6_restore 13 = .ok (.ifnull 12, 3) := by decide +kernel
theorem dX6_restore_16 : decode cX6_restore 16 = .ok (.aload_n 0, 1) := by decide +kernel
theorem dX6_restore_17 : decode cX6_restore 17 = .ok (.getfield 42, 3) := by decide +kernel
theorem dX6_restore_20 : decode cX6_restore 20 = .ok (.iload_n 1, 1) := by decide +kernel
theorem dX6_restore_21 : decode cX6_restore 21 = .ok (.baload, 1) := by decide +kernel
theorem dX6_restore_22 : decode cX6_restore 22 = .ok (.ifCond .ne 14, 3) := by decide +kernel
theorem dX6_restore_25 : decode cX6_restore 25 = .ok (.new 129, 3) := by decide +kernel
theorem dX6_restore_28 : decode cX6_restore 28 = .ok (.dup, 1) := by decide +kernel
theorem dX6_restore_29 : decode cX6_restore 29 = .ok (.ldc_w 383, 3) := by decide +kernel
theorem dX6_restore_32 : decode cX6_restore 32 = .ok (.invokespecial 133, 3) := by decide +kernel
theorem dX6_restore_35 : decode cX6_restore 35 = .ok (.athrow, 1) := by decide +kernel
theorem dX6_mustHaveHost_0 : decode cX6_mustHaveHost 0 = .ok (.iload_n 1, 1) := by decide +kernel
theorem dX6_mustHaveHost_1 : decode cX6_mustHaveHost 1 = .ok (.ifCond .lt 17, 3) := by decide +kernel
theorem dX6_mustHaveHost_4 : decode cX6_mustHaveHost 4 = .ok (.iload_n 1, 1) := by decide +kernel
theorem dX6_mustHaveHost_5 : decode cX6_mustHaveHost 5 = .ok (.aload_n 0, 1) := by decide +kernel
theorem dX6_mustHaveHost_6 : decode cX6_mustHaveHost 6 = .ok (.getfield 24, 3) := by decide +kernel
theorem dX6_mustHaveHost_9 : decode cX6_mustHaveHost 9 = .ok (.getfield 119, 3) := by decide +kernel
theorem dX6_mustHaveHost_12 : decode cX6_mustHaveHost 12 = .ok (.invokevirtual 111, 3) := by decide +kernel
theorem dX6_mustHaveHost_15 : decode cX6_mustHaveHost 15 = .ok (.if_icmp .lt 14, 3) := by decide +kernel
theorem dX6_mustHaveHost_18 : decode cX6_mustHaveHost 18 = .ok (.new 84, 3) := by decide +kernel
theorem dX6_mustHaveHost_21 : decode cX6_mustHaveHost 21 = .ok (.dup, 1) := by decide +kernel
theorem dX6_mustHaveHost_22 : decode cX6_mustHaveHost 22 = .ok (.ldc_w 385, 3) := by decide +kernel
theorem dX6_mustHaveHost_25 : decode cX6_mustHaveHost 25 = .ok (.invokespecial 88, 3) := by decide +kernel
theorem dX6_mustHaveHost_28 : decode cX6_mustHaveHost 28 = .ok (.athrow, 1) := by decide +kernel
theorem dX6_mustHaveHost_29 : decode cX6_mustHaveHost 29 = .ok (.return_, 1) := by decide +kernel
theorem dX6_mustHaveType_0 : decode cX6_mustHaveType 0 = .ok (.iload_n 1, 1) := by decide +kernel
theorem dX6_mustHaveType_1 : decode cX6_mustHaveType 1 = .ok (.ifCond .lt 17, 3) := by decide +kernel
theorem dX6_mustHaveType_4 : decode cX6_mustHaveType 4 = .ok (.iload_n 1, 1) := by decide +kernel
theorem dX6_mustHaveType_5 : decode cX6_mustHaveType 5 = .ok (.aload_n 0, 1) := by decide +kernel
theorem dX6_mustHaveType_6 : decode cX6_mustHaveType 6 = .ok (.getfield 24, 3) := by decide +kernel
theorem dX6_mustHaveType_9 : decode cX6_mustHaveType 9 = .ok (.getfield 126, 3) := by decide +kernel
theorem dX6_mustHaveType_12 : decode cX6_mustHaveType 12 = .ok (.invokevirtual 111, 3) := by decide +kernel
theorem dX6_mustHaveType_15 : decode cX6_mustHaveType 15 = .ok (.if_icmp .lt 14, 3) := by decide +kernel
theorem dX6_mustHaveType_18 : decode cX6_mustHaveType 18 = .ok (.new 84, 3) := by decide +kernel
theorem dX6_mustHaveType_21 : decode cX6_mustHaveType 21 = .ok (.dup, 1) := by decide +kernel
theorem dX6_mustHaveType_22 : decode cX6_mustHaveType 22 = .ok (.ldc_w 387, 3) := by decide +kernel
theorem dX6_mustHaveType_25 : decode cX6_mustHaveType 25 = .ok (.invokespecial 88, 3) := by decide +kernel
theorem dX6_mustHaveType_28 : decode cX6_mustHaveType 28 = .ok (.athrow, 1) := by decide +kernel
theorem dX6_mustHaveType_29 : decode cX6_mustHaveType 29 = .ok (.return_, 1) := by decide +kernel
theorem dX6_mustHaveService_0 : decode cX6_mustHaveService 0 = .ok (.iload_n 1, 1) := by decide +kernel
theorem dX6_mustHaveService_1 : decode cX6_mustHaveService 1 = .ok (.ifCond .lt 17, 3) := by decide +kernel
theorem dX6_mustHaveService_4 : decode cX6_mustHaveService 4 = .ok (.iload_n 1, 1) := by decide +kernel
theorem dX6_mustHaveService_5 : decode cX6_mustHaveService 5 = .ok (.aload_n 0, 1) := by decide +kernel
theorem dX6_mustHaveService_6 : decode cX6_mustHaveService 6 = .ok (.getfield 24, 3) := by decide +kernel
theorem dX6_mustHaveService_9 : decode cX6_mustHaveService 9 = .ok (.getfield 107, 3) := by decide +kernel
theorem dX6_mustHaveService_12 : decode cX6_mustHaveService 12 = .ok (.invokevirtual 111, 3) := by decide +kernel
theorem dX6_mustHaveService_15 : decode cX6_mustHaveService 15 = .ok (.if_icmp .lt 14, 3) := by decide +kernel
theorem dX6_mustHaveService_18 : decode cX6_mustHaveService 18 = .ok (.new 84, 3) := by decide +kernel
theorem dX6_mustHaveService_21 : decode cX6_mustHaveService 21 = .ok (.dup, 1) := by decide +kernel
theorem dX6_mustHaveService_22 : decode cX6_mustHaveService 22 = .ok (.ldc_w 389, 3) := by decide +kernel
theorem dX6_mustHaveService_25 : decode cX6_mustHaveService 25 = .ok (.invokespecial 88, 3) := by decide +kernel
theorem dX6_mustHaveService_28 : decode cX6_mustHaveService 28 = .ok (.athrow, 1) := by decide +kernel
theorem dX6_mustHaveService_29 : decode cX6_mustHaveService 29 = .ok (.return_, 1) := by decide +kernel
theorem dX6_mustHaveRecord_0 : decode cX6_mustHaveRecord 0 = .ok (.aload_n 0, 1) := by decide +kernel
theorem dX6_mustHaveRecord_1 : decode cX6_mustHaveRecord 1 = .ok (.iload_n 1, 1) := by decide +kernel
theorem dX6_mustHaveRecord_2 : decode cX6_mustHaveRecord 2 = .ok (.invokevirtual 166, 3) := by decide +kernel
theorem dX6_mustHaveRecord_5 : decode cX6_mustHaveRecord 5 = .ok (.iload_n 2, 1) := by decide +kernel
theorem dX6_mustHaveRecord_6 : decode cX6_mustHaveRecord 6 = .ok (.ifCond .lt 18, 3) := by decide +kernel
theorem dX6_mustHaveRecord_9 : decode cX6_mustHaveRecord 9 = .ok (.iload_n 2, 1) := by decide +kernel
theorem dX6_mustHaveRecord_10 : decode cX6_mustHaveRecord 10 = .ok (.aload_n 0, 1) := by decide +kernel
theorem dX6_mustHaveRecord_11 : decode cX6_mustHaveRecord 11 = .ok (.getfield 24, 3) := by decide +kernel
theorem dX6_mustHaveRecord_14 : decode cX6_mustHaveRecord 14 = .ok (.iload_n 1, 1) := by decide +kernel
theorem dX6_mustHaveRecord_15 : decode cX6_mustHaveRecord 15 = .ok (.invokevirtual 180, 3) := by decide +kernel
theorem dX6_mustHaveRecord_18 : decode cX6_mustHaveRecord 18 = .ok (.invokevirtual 111, 3) := by decide +kernel
theorem dX6_mustHaveRecord_21 : decode cX6_mustHaveRecord 21 = .ok (.if_icmp .lt 14, 3) := by decide +kernel
theorem dX6_mustHaveRecord_24 : decode cX6_mustHaveRecord 24 = .ok (.new 84, 3) := by decide +kernel
theorem dX6_mustHaveRecord_27 : decode cX6_mustHaveRecord 27 = .ok (.dup, 1) := by decide +kernel
theorem dX6_mustHaveRecord_28 : decode cX6_mustHaveRecord 28 = .ok (.ldc_w 391, 3) := by decide +kernel
theorem dX6_mustHaveRecord_31 : decode cX6_mustHaveRecord 31 = .ok (.invokespecial 88, 3) := by decide +kernel
theorem dX6_mustHaveRecord_34 : decode cX6_mustHaveRecord 34 = .ok (.athrow, 1) := by decide +kernel
theorem dX6_mustBeSlot_0 : decode cX6_mustBeSlot 0 = .ok (.iload_n 1, 1) := by decide +kernel
theorem dX6_mustBeSlot_1 : decode cX6_mustBeSlot 1 = .ok (.ifCond .lt 21, 3) := by decide +kernel
theorem dX6_mustBeSlot_4 : decode cX6_mustBeSlot 4 = .ok (.iload_n 1, 1) := by decide +kernel
theorem dX6_mustBeSlot_5 : decode cX6_mustBeSlot 5 = .ok (.aload_n 0, 1) := by decide +kernel
theorem dX6_mustBeSlot_6 : decode cX6_mustBeSlot 6 = .ok (.getfield 38, 3) := by decide +kernel
theorem dX6_mustBeSlot_9 : decode cX6_mustBeSlot 9 = .ok (.arraylength, 1) := by decide +kernel
theorem dX6_mustBeSlot_10 : decode cX6_mustBeSlot 10 = .ok (.if_icmp .ge 12, 3) := by decide +kernel
theorem dX6_mustBeSlot_13 : decode cX6_mustBeSlot 13 = .ok (.iload_n 1, 1) := by decide +kernel
theorem dX6_mustBeSlot_14 : decode cX6_mustBeSlot 14 = .ok (.aload_n 0, 1) := by decide +kernel
theorem dX6_mustBeSlot_15 : decode cX6_mustBeSlot 15 = .ok (.getfield 42, 3) := by decide +kernel
theorem dX6_mustBeSlot_18 : decode cX6_mustBeSlot 18 = .ok (.arraylength, 1) := by decide +kernel
theorem dX6_mustBeSlot_19 : decode cX6_mustBeSlot 19 = .ok (.if_icmp .lt 14, 3) := by decide +kernel
theorem dX6_mustBeSlot_22 : decode cX6_mustBeSlot 22 = .ok (.new 84, 3) := by decide +kernel
theorem dX6_mustBeSlot_25 : decode cX6_mustBeSlot 25 = .ok (.dup, 1) := by decide +kernel
theorem dX6_mustBeSlot_26 : decode cX6_mustBeSlot 26 = .ok (.ldc_w 393, 3) := by decide +kernel
theorem dX6_mustBeSlot_29 : decode cX6_mustBeSlot 29 = .ok (.invokespecial 88, 3) := by decide +kernel
theorem dX6_mustBeSlot_32 : decode cX6_mustBeSlot 32 = .ok (.athrow, 1) := by decide +kernel
theorem dX6_mustBeSlot_33 : decode cX6_mustBeSlot 33 = .ok (.return_, 1) := by decide +kernel
theorem dX6_mustBePort_0 : decode cX6_mustBePort 0 = .ok (.iload_n 0, 1) := by decide +kernel
theorem dX6_mustBePort_1 : decode cX6_mustBePort 1 = .ok (.iconst 1, 1) := by decide +kernel
theorem dX6_mustBePort_2 : decode cX6_mustBePort 2 = .ok (.if_icmp .lt 10, 3) := by decide +kernel
theorem dX6_mustBePort_5 : decode cX6_mustBePort 5 = .ok (.iload_n 0, 1) := by decide +kernel
theorem dX6_mustBePort_6 : decode cX6_mustBePort 6 = .ok (.sipush 999, 3) := by decide +kernel
theorem dX6_mustBePort_9 : decode cX6_mustBePort 9 = .ok (.if_icmp .le 14, 3) := by decide +kernel
theorem dX6_mustBePort_12 : decode cX6_mustBePort 12 = .ok (.new 95, 3) := by decide +kernel
theorem dX6_mustBePort_15 : decode cX6_mustBePort 15 = .ok (.dup, 1) := by decide +kernel
theorem dX6_mustBePort_16 : decode cX6_mustBePort 16 = .ok (.ldc_w 395, 3) := by decide +kernel
theorem dX6_mustBePort_19 : decode cX6_mustBePort 19 = .ok (.invokespecial 99, 3) := by decide +kernel
theorem dX6_mustBePort_22 : decode cX6_mustBePort 22 = .ok (.athrow, 1) := by decide +kernel
theorem dX6_mustBePort_23 : decode cX6_mustBePort 23 = .ok (.return_, 1) := by decide +kernel
theorem dX6_mustBeMessage_0 : decode cX6_mustBeMessage 0 = .ok (.iload_n 0, 1) := by decide +kernel
theorem dX6_mustBeMessage_1 : decode cX6_mustBeMessage 1 = .ok (.ifCond .lt 10, 3) := by decide +kernel
theorem dX6_mustBeMessage_4 : decode cX6_mustBeMessage 4 = .ok (.iload_n 0, 1) := by decide +kernel
theorem dX6_mustBeMessage_5 : decode cX6_mustBeMessage 5 = .ok (.sipush 999, 3) := by decide +kernel
theorem dX6_mustBeMessage_8 : decode cX6_mustBeMessage 8 = .ok (.if_icmp .le 14, 3) := by decide +kernel
theorem dX6_mustBeMessage_11 : decode cX6_mustBeMessage 11 = .ok (.new 95, 3) := by decide +kernel
theorem dX6_mustBeMessage_14 : decode cX6_mustBeMessage 14 = .ok (.dup, 1) := by decide +kernel
theorem dX6_mustBeMessage_15 : decode cX6_mustBeMessage 15 = .ok (.ldc_w 397, 3) := by decide +kernel
theorem dX6_mustBeMessage_18 : decode cX6_mustBeMessage 18 = .ok (.invokespecial 99, 3) := by decide +kernel
theorem dX6_mustBeMessage_21 : decode cX6_mustBeMessage 21 = .ok (.athrow, 1) := by decide +kernel
theorem dX6_mustBeMessage_22 : decode cX6_mustBeMessage 22 = .ok (.return_, 1) := by decide +kernel
theorem dX6_mustBeTicks_0 : decode cX6_mustBeTicks 0 = .ok (.iload_n 0, 1) := by decide +kernel
theorem dX6_mustBeTicks_1 : decode cX6_mustBeTicks 1 = .ok (.iload_n 1, 1) := by decide +kernel
theorem dX6_mustBeTicks_2 : decode cX6_mustBeTicks 2 = .ok (.if_icmp .lt 9, 3) := by decide +kernel
theorem dX6_mustBeTicks_5 : decode cX6_mustBeTicks 5 = .ok (.iload_n 0, 1) := by decide +kernel
theorem dX6_mustBeTicks_6 : decode cX6_mustBeTicks 6 = .ok (.bipush 100, 2) := by decide +kernel
theorem dX6_mustBeTicks_8 : decode cX6_mustBeTicks 8 = .ok (.if_icmp .le 14, 3) := by decide +kernel
theorem dX6_mustBeTicks_11 : decode cX6_mustBeTicks 11 = .ok (.new 95, 3) := by decide +kernel
theorem dX6_mustBeTicks_14 : decode cX6_mustBeTicks 14 = .ok (.dup, 1) := by decide +kernel
theorem dX6_mustBeTicks_15 : decode cX6_mustBeTicks 15 = .ok (.ldc_w 399, 3) := by decide +kernel
theorem dX6_mustBeTicks_18 : decode cX6_mustBeTicks 18 = .ok (.invokespecial 99, 3) := by decide +kernel
theorem dX6_mustBeTicks_21 : decode cX6_mustBeTicks 21 = .ok (.athrow, 1) := by decide +kernel
theorem dX6_mustBeTicks_22 : decode cX6_mustBeTicks 22 = .ok (.return_, 1) := by decide +kernel
theorem dX6_intOf_0 : decode cX6_intOf 0 = .ok (.lload_n 0, 1) := by decide +kernel
theorem dX6_intOf_1 : decode cX6_intOf 1 = .ok (.ldc2_w 401, 3) := by decide +kernel
theorem dX6_intOf_4 : decode cX6_intOf 4 = .ok (.lcmp, 1) := by decide +kernel
theorem dX6_intOf_5 : decode cX6_intOf 5 = .ok (.ifCond .le 9, 3) := by decide +kernel
theorem dX6_intOf_8 : decode cX6_intOf 8 = .ok (.ldc_w 403, 3) := by decide +kernel
theorem dX6_intOf_11 : decode cX6_intOf 11 = .ok (.goto 5, 3) := by decide +kernel
theorem dX6_intOf_14 : decode cX6_intOf 14 = .ok (.lload_n 0, 1) := by decide +kernel
theorem dX6_intOf_15 : decode cX6_intOf 15 = .ok (.l2i, 1) := by decide +kernel
theorem dX6_intOf_16 : decode cX6_intOf 16 = .ok (.ireturn, 1) := by decide +kernel
theorem dX6_letterOf_0 : decode cX6_letterOf 0 = .ok (.iload_n 1, 1) := by decide +kernel
theorem dX6_letterOf_1 : decode cX6_letterOf 1 = .ok (.ifCond .lt 9, 3) := by decide +kernel
theorem dX6_letterOf_4 : decode cX6_letterOf 4 = .ok (.iload_n 1, 1) := by decide +kernel
theorem dX6_letterOf_5 : decode cX6_letterOf 5 = .ok (.bipush 6, 2) := by decide +kernel
theorem dX6_letterOf_7 : decode cX6_letterOf 7 = .ok (.if_icmp .lt 7, 3) := by decide +kernel
theorem dX6_letterOf_10 : decode cX6_letterOf 10 = .ok (.iconst 0, 1) := by decide +kernel
theorem dX6_letterOf_11 : decode cX6_letterOf 11 = .ok (.goto 11, 3) := by decide +kernel
theorem dX6_letterOf_14 : decode cX6_letterOf 14 = .ok (.iload_n 0, 1) := by decide +kernel
theorem dX6_letterOf_15 : decode cX6_letterOf 15 = .ok (.iconst 5, 1) := by decide +kernel
theorem dX6_letterOf_16 : decode cX6_letterOf 16 = .ok (.iload_n 1, 1) := by decide +kernel
theorem dX6_letterOf_17 : decode cX6_letterOf 17 = .ok (.imul, 1) := by decide +kernel
theorem dX6_letterOf_18 : decode cX6_letterOf 18 = .ok (.ishr, 1) := by decide +kernel
theorem dX6_letterOf_19 : decode cX6_letterOf 19 = .ok (.bipush 31, 2) := by decide +kernel
theorem dX6_letterOf_21 : decode cX6_letterOf 21 = .ok (.iand, 1) := by decide +kernel
theorem dX6_letterOf_22 : decode cX6_letterOf 22 = .ok (.istore_n 2, 1) := by decide +kernel
theorem dX6_letterOf_23 : decode cX6_letterOf 23 = .ok (.iload_n 2, 1) := by decide +kernel
theorem dX6_letterOf_24 : decode cX6_letterOf 24 = .ok (.ifCond .ne 7, 3) := by decide +kernel
theorem dX6_letterOf_27 : decode cX6_letterOf 27 = .ok (.iconst (-1), 1) := by decide +kernel
theorem dX6_letterOf_28 : decode cX6_letterOf 28 = .ok (.goto 7, 3) := by decide +kernel
theorem dX6_letterOf_31 : decode cX6_letterOf 31 = .ok (.bipush 96, 2) := by decide +kernel
theorem dX6_letterOf_33 : decode cX6_letterOf 33 = .ok (.iload_n 2, 1) := by decide +kernel
theorem dX6_letterOf_34 : decode cX6_letterOf 34 = .ok (.iadd, 1) := by decide +kernel
theorem dX6_letterOf_35 : decode cX6_letterOf 35 = .ok (.ireturn, 1) := by decide +kernel
theorem dX6_signOf_0 : decode cX6_signOf 0 = .ok (.iload_n 0, 1) := by decide +kernel
theorem dX6_signOf_1 : decode cX6_signOf 1 = .ok (.ifCond .ne 8, 3) := by decide +kernel
theorem dX6_signOf_4 : decode cX6_signOf 4 = .ok (.bipush 112, 2) := by decide +kernel
theorem dX6_signOf_6 : decode cX6_signOf 6 = .ok (.goto 25, 3) := by decide +kernel
theorem dX6_signOf_31 : decode cX6_signOf 31 = .ok (.ireturn, 1) := by decide +kernel
theorem dX7_init_0 : decode cX7_init 0 = .ok (.aload_n 0, 1) := by decide +kernel
theorem dX7_init_1 : decode cX7_init 1 = .ok (.invokespecial 1, 3) := by decide +kernel
theorem dX7_init_4 : decode cX7_init 4 = .ok (.aload_n 0, 1) := by decide +kernel
theorem dX7_init_5 : decode cX7_init 5 = .ok (.bipush 6, 2) := by decide +kernel
theorem dX7_init_7 : decode cX7_init 7 = .ok (.newarray .int, 2) := by decide +kernel
theorem dX7_init_9 : decode cX7_init 9 = .ok (.putfield 7, 3) := by decide +kernel
theorem dX7_init_12 : decode cX7_init 12 = .ok (.aload_n 0, 1) := by decide +kernel
theorem dX7_init_13 : decode cX7_init 13 = .ok (.iconst 4, 1) := by decide +kernel
theorem dX7_init_14 : decode cX7_init 14 = .ok (.newarray .int, 2) := by decide +kernel
theorem dX7_init_16 : decode cX7_init 16 = .ok (.putfield 13, 3) := by decide +kernel
theorem dX7_init_19 : decode cX7_init 19 = .ok (.aload_n 0, 1) := by decide +kernel
theorem dX7_init_20 : decode cX7_init 20 = .ok (.ldc 16, 2) := by decide +kernel
theorem dX7_init_22 : decode cX7_init 22 = .ok (.newarray .int, 2) := by decide +kernel
theorem dX7_init_24 : decode cX7_init 24 = .ok (.putfield 17, 3) := by decide +kernel
theorem dX7_init_27 : decode cX7_init 27 = .ok (.aload_n 0, 1) := by decide +kernel
theorem dX7_init_28 : decode cX7_init 28 = .ok (.ldc 20, 2) := by decide +kernel
theorem dX7_init_30 : decode cX7_init 30 = .ok (.newarray .int, 2) := by decide +kernel
theorem dX7_init_32 : decode cX7_init 32 = .ok (.putfield 21, 3) := by decide +kernel
theorem dX7_init_35 : decode cX7_init 35 = .ok (.aload_n 0, 1) := by decide +kernel
theorem dX7_init_36 : decode cX7_init 36 = .ok (.ldc 24, 2) := by decide +kernel
theorem dX7_init_38 : decode cX7_init 38 = .ok (.newarray .int, 2) := by decide +kernel
theorem dX7_init_40 : decode cX7_init 40 = .ok (.putfield 25, 3) := by decide +kernel
theorem dX7_init_43 : decode cX7_init 43 = .ok (.aload_n 0, 1) := by decide +kernel
theorem dX7_init_44 : decode cX7_init 44 = .ok (.ldc 16, 2) := by decide +kernel
theorem dX7_init_46 : decode cX7_init 46 = .ok (.newarray .int, 2) := by decide +kernel
theorem dX7_init_48 : decode cX7_init 48 = .ok (.putfield 28, 3) := by decide +kernel
theorem dX7_init_51 : decode cX7_init 51 = .ok (.aload_n 0, 1) := by decide +kernel
theorem dX7_init_52 : decode cX7_init 52 = .ok (.iconst 2, 1) := by decide +kernel
theorem dX7_init_53 : decode cX7_init 53 = .ok (.newarray .boolean, 2) := by decide +kernel
theorem dX7_init_55 : decode cX7_init 55 = .ok (.putfield 31, 3) := by decide +kernel
theorem dX7_init_58 : decode cX7_init 58 = .ok (.aload_n 0, 1) := by decide +kernel
theorem dX7_init_59 : decode cX7_init 59 = .ok (.sipush 800, 3) := by decide +kernel
theorem dX7_init_62 : decode cX7_init 62 = .ok (.newarray .int, 2) := by decide +kernel
theorem dX7_init_64 : decode cX7_init 64 = .ok (.putfield 35, 3) := by decide +kernel
theorem dX7_init_67 : decode cX7_init 67 = .ok (.aload_n 0, 1) := by decide +kernel
theorem dX7_init_68 : decode cX7_init 68 = .ok (.iconst (-1), 1) := by decide +kernel
theorem dX7_init_69 : decode cX7_init 69 = .ok (.putfield 38, 3) := by decide +kernel
theorem dX7_init_72 : decode cX7_init 72 = .ok (.aload_n 0, 1) := by decide +kernel
theorem dX7_init_73 : decode cX7_init 73 = .ok (.bipush 6, 2) := by decide +kernel
theorem dX7_init_75 : decode cX7_init 75 = .ok (.newarray .int, 2) := by decide +kernel
theorem dX7_init_77 : decode cX7_init 77 = .ok (.putfield 42, 3) := by decide +kernel
theorem dX7_init_80 : decode cX7_init 80 = .ok (.aload_n 0, 1) := by decide +kernel
theorem dX7_init_81 : decode cX7_init 81 = .ok (.iconst 4, 1) := by decide +kernel
theorem dX7_init_82 : decode cX7_init 82 = .ok (.newarray .int, 2) := by decide +kernel
theorem dX7_init_84 : decode cX7_init 84 = .ok (.putfield 45, 3) := by decide +kernel
theorem dX7_init_87 : decode cX7_init 87 = .ok (.aload_n 0, 1) := by decide +kernel
theorem dX7_init_88 : decode cX7_init 88 = .ok (.sipush 2747, 3) := by decide +kernel
theorem dX7_init_91 : decode cX7_init 91 = .ok (.newarray .int, 2) := by decide +kernel
theorem dX7_init_93 : decode cX7_init 93 = .ok (.putfield 48, 3) := by decide +kernel
theorem dX7_init_96 : decode cX7_init 96 = .ok (.aload_n 0, 1) := by decide +kernel
theorem dX7_init_97 : decode cX7_init 97 = .ok (.sipush 400, 3) := by decide +kernel
theorem dX7_init_100 : decode cX7_init 100 = .ok (.newarray .int, 2) := by decide +kernel
theorem dX7_init_102 : decode cX7_init 102 = .ok (.putfield 51, 3) := by decide +kernel
theorem dX7_init_105 : decode cX7_init 105 = .ok (.aload_n 0, 1) := by decide +kernel
theorem dX7_init_106 : decode cX7_init 106 = .ok (.iconst 2, 1) := by decide +kernel
theorem dX7_init_107 : decode cX7_init 107 = .ok (.putfield 54, 3) := by decide +kernel
theorem dX7_init_110 : decode cX7_init 110 = .ok (.aload_n 0, 1) := by decide +kernel
theorem dX7_init_111 : decode cX7_init 111 = .ok (.iconst 1, 1) := by decide +kernel
theorem dX7_init_112 : decode cX7_init 112 = .ok (.putfield 57, 3) := by decide +kernel
theorem dX7_init_115 : decode cX7_init 115 = .ok (.aload_n 0, 1) := by decide +kernel
theorem dX7_init_116 : decode cX7_init 116 = .ok (.getfield 42, 3) := by decide +kernel
theorem dX7_init_119 : decode cX7_init 119 = .ok (.iconst 0, 1) := by decide +kernel
theorem dX7_init_120 : decode cX7_init 120 = .ok (.iconst 1, 1) := by decide +kernel
theorem dX7_init_121 : decode cX7_init 121 = .ok (.iastore, 1) := by decide +kernel
theorem dX7_init_122 : decode cX7_init 122 = .ok (.aload_n 0, 1) := by decide +kernel
theorem dX7_init_123 : decode cX7_init 123 = .ok (.getfield 42, 3) := by decide +kernel
theorem dX7_init_126 : decode cX7_init 126 = .ok (.iconst 1, 1) := by decide +kernel
theorem dX7_init_127 : decode cX7_init 127 = .ok (.iconst 2, 1) := by decide +kernel
theorem dX7_init_128 : decode cX7_init 128 = .ok (.iastore, 1) := by decide +kernel
theorem dX7_init_129 : decode cX7_init 129 = .ok (.aload_n 0, 1) := by decide +kernel
theorem dX7_init_130 : decode cX7_init 130 = .ok (.getfield 45, 3) := by decide +kernel
theorem dX7_init_133 : decode cX7_init 133 = .ok (.iconst 0, 1) := by decide +kernel
theorem dX7_init_134 : decode cX7_init 134 = .ok (.bipush 20, 2) := by decide +kernel
theorem dX7_init_136 : decode cX7_init 136 = .ok (.iastore, 1) := by decide +kernel
theorem dX7_init_137 : decode cX7_init 137 = .ok (.aload_n 0, 1) := by decide +kernel
theorem dX7_init_138 : decode cX7_init 138 = .ok (.getfield 48, 3) := by decide +kernel
theorem dX7_init_141 : decode cX7_init 141 = .ok (.bipush 9, 2) := by decide +kernel
theorem dX7_init_143 : decode cX7_init 143 = .ok (.iconst 1, 1) := by decide +kernel
theorem dX7_init_144 : decode cX7_init 144 = .ok (.iastore, 1) := by decide +kernel
theorem dX7_init_145 : decode cX7_init 145 = .ok (.aload_n 0, 1) := by decide +kernel
theorem dX7_init_146 : decode cX7_init 146 = .ok (.getfield 48, 3) := by decide +kernel
theorem dX7_init_149 : decode cX7_init 149 = .ok (.bipush 13, 2) := by decide +kernel
theorem dX7_init_151 : decode cX7_init 151 = .ok (.iconst 1, 1) := by decide +kernel
theorem dX7_init_152 : decode cX7_init 152 = .ok (.iastore, 1) := by decide +kernel
theorem dX7_init_153 : decode cX7_init 153 = .ok (.aload_n 0, 1) := by decide +kernel
theorem dX7_init_154 : decode cX7_init 154 = .ok (.getfield 48, 3) := by decide +kernel
theorem dX7_init_157 : decode cX7_init 157 = .ok (.iconst 0, 1) := by decide +kernel
theorem dX7_init_158 : decode cX7_init 158 = .ok (.iconst 0, 1) := by decide +kernel
theorem dX7_init_159 : decode cX7_init 159 = .ok (.bipush 24, 2) := by decide +kernel
theorem dX7_init_161 : decode cX7_init 161 = .ok (.bipush 80, 2) := by decide +kernel
theorem dX7_init_163 : decode cX7_init 163 = .ok (.bipush 100, 2) := by decide +kernel
theorem dX7_init_165 : decode cX7_init 165 = .ok (.invokestatic 60, 3) := by decide +kernel
theorem dX7_init_168 : decode cX7_init 168 = .ok (.aload_n 0, 1) := by decide +kernel
theorem dX7_init_169 : decode cX7_init 169 = .ok (.getfield 48, 3) := by decide +kernel
theorem dX7_init_172 : decode cX7_init 172 = .ok (.iconst 1, 1) := by decide +kernel
theorem dX7_init_173 : decode cX7_init 173 = .ok (.iconst 0, 1) := by decide +kernel
theorem dX7_init_174 : decode cX7_init 174 = .ok (.bipush 24, 2) := by decide +kernel
theorem dX7_init_176 : decode cX7_init 176 = .ok (.bipush 90, 2) := by decide +kernel
theorem dX7_init_178 : decode cX7_init 178 = .ok (.bipush 100, 2) := by decide +kernel
theorem dX7_init_180 : decode cX7_init 180 = .ok (.invokestatic 60, 3) := by decide +kernel
theorem dX7_init_183 : decode cX7_init 183 = .ok (.aload_n 0, 1) := by decide +kernel
theorem dX7_init_184 : decode cX7_init 184 = .ok (.getfield 48, 3) := by decide +kernel
theorem dX7_init_187 : decode cX7_init 187 = .ok (.iconst 0, 1) := by decide +kernel
theorem dX7_init_188 : decode cX7_init 188 = .ok (.iconst 0, 1) := by decide +kernel
theorem dX7_init_189 : decode cX7_init 189 = .ok (.invokestatic 64, 3) := by decide +kernel
theorem dX7_init_192 : decode cX7_init 192 = .ok (.aload_n 0, 1) := by decide +kernel
theorem dX7_init_193 : decode cX7_init 193 = .ok (.invokevirtual 68, 3) := by decide +kernel
theorem dX7_init_196 : decode cX7_init 196 = .ok (.return_, 1) := by decide +kernel
theorem dX7_thrown_0 : decode cX7_thrown 0 = .ok (.aload_n 0, 1) := by decide +kernel
theorem dX7_thrown_1 : decode cX7_thrown 1 = .ok (.getfield 71, 3) := by decide +kernel
theorem dX7_thrown_4 : decode cX7_thrown 4 = .ok (.ireturn, 1) := by decide +kernel
theorem dX7_in_0 : decode cX7_in 0 = .ok (.lload_n 0, 1) := by decide +kernel
theorem dX7_in_1 : decode cX7_in 1 = .ok (.lload_n 2, 1) := by decide +kernel
theorem dX7_in_2 : decode cX7_in 2 = .ok (.lcmp, 1) := by decide +kernel
theorem dX7_in_3 : decode cX7_in 3 = .ok (.ifCond .lt 14, 3) := by decide +kernel
theorem dX7_in_6 : decode cX7_in 6 = .ok (.lload_n 0, 1) := by decide +kernel
theorem dX7_in_7 : decode cX7_in 7 = .ok (.lload 4, 2) := by decide +kernel
theorem dX7_in_9 : decode cX7_in 9 = .ok (.lcmp, 1) := by decide +kernel
theorem dX7_in_10 : decode cX7_in 10 = .ok (.ifCond .gt 7, 3) := by decide +kernel
theorem dX7_in_13 : decode cX7_in 13 = .ok (.iconst 1, 1) := by decide +kernel
theorem dX7_in_14 : decode cX7_in 14 = .ok (.goto 4, 3) := by decide +kernel
theorem dX7_in_17 : decode cX7_in 17 = .ok (.iconst 0, 1) := by decide +kernel
theorem dX7_in_18 : decode cX7_in 18 = .ok (.ireturn, 1) := by decide +kernel
theorem dX7_hostAt_0 : decode cX7_hostAt 0 = .ok (.bipush 9, 2) := by decide +kernel
theorem dX7_hostAt_2 : decode cX7_hostAt 2 = .ok (.iconst 4, 1) := by decide +kernel
theorem dX7_hostAt_3 : decode cX7_hostAt 3 = .ok (.iload_n 0, 1) := by decide +kernel
theorem dX7_hostAt_4 : decode cX7_hostAt 4 = .ok (.imul, 1) := by decide +kernel
theorem dX7_hostAt_5 : decode cX7_hostAt 5 = .ok (.iadd, 1) := by decide +kernel
theorem dX7_hostAt_6 : decode cX7_hostAt 6 = .ok (.ireturn, 1) := by decide +kernel
theorem dX7_serviceAt_0 : decode cX7_serviceAt 0 = .ok (.bipush 33, 2) := by decide +kernel
theorem dX7_serviceAt_2 : decode cX7_serviceAt 2 = .ok (.bipush 12, 2) := by decide +kernel
theorem dX7_serviceAt_4 : decode cX7_serviceAt 4 = .ok (.iload_n 0, 1) := by decide +kernel
theorem dX7_serviceAt_5 : decode cX7_serviceAt 5 = .ok (.imul, 1) := by decide +kernel
theorem dX7_serviceAt_6 : decode cX7_serviceAt 6 = .ok (.iadd, 1) := by decide +kernel
theorem dX7_serviceAt_7 : decode cX7_serviceAt 7 = .ok (.ireturn, 1) := by decide +kernel
theorem dX7_browserAt_0 : decode cX7_browserAt 0 = .ok (.sipush 189, 3) := by decide +kernel
theorem dX7_browserAt_3 : decode cX7_browserAt 3 = .ok (.iconst 5, 1) := by decide +kernel
theorem dX7_browserAt_4 : decode cX7_browserAt 4 = .ok (.iconst 4, 1) := by decide +kernel
theorem dX7_browserAt_5 : decode cX7_browserAt 5 = .ok (.iload_n 0, 1) := by decide +kernel
theorem dX7_browserAt_6 : decode cX7_browserAt 6 = .ok (.imul, 1) := by decide +kernel
theorem dX7_browserAt_7 : decode cX7_browserAt 7 = .ok (.iload_n 1, 1) := by decide +kernel
theorem dX7_browserAt_8 : decode cX7_browserAt 8 = .ok (.iadd, 1) := by decide +kernel
theorem dX7_browserAt_9 : decode cX7_browserAt 9 = .ok (.imul, 1) := by decide +kernel
theorem dX7_browserAt_10 : decode cX7_browserAt 10 = .ok (.iadd, 1) := by decide +kernel
theorem dX7_browserAt_11 : decode cX7_browserAt 11 = .ok (.ireturn, 1) := by decide +kernel
theorem dX7_recordAt_0 : decode cX7_recordAt 0 = .ok (.sipush 309, 3) := by decide +kernel
theorem dX7_recordAt_3 : decode cX7_recordAt 3 = .ok (.bipush 8, 2) := by decide +kernel
theorem dX7_recordAt_5 : decode cX7_recordAt 5 = .ok (.bipush 16, 2) := by decide +kernel
theorem dX7_recordAt_7 : decode cX7_recordAt 7 = .ok (.iload_n 0, 1) := by decide +kernel
theorem dX7_recordAt_8 : decode cX7_recordAt 8 = .ok (.imul, 1) := by decide +kernel
theorem dX7_recordAt_9 : decode cX7_recordAt 9 = .ok (.iload_n 1, 1) := by decide +kernel
theorem dX7_recordAt_10 : decode cX7_recordAt 10 = .ok (.iadd, 1) := by decide +kernel
theorem dX7_recordAt_11 : decode cX7_recordAt 11 = .ok (.imul, 1) := by decide +kernel
theorem dX7_recordAt_12 : decode cX7_recordAt 12 = .ok (.iadd, 1) := by decide +kernel
theorem dX7_recordAt_13 : decode cX7_recordAt 13 = .ok (.ireturn, 1) := by decide +kernel
theorem dX7_messageAt_0 : decode cX7_messageAt 0 = .ok (.sipush 2747, 3) := by decide +kernel
theorem dX7_messageAt_3 : decode cX7_messageAt 3 = .ok (.bipush 9, 2) := by decide +kernel
theorem dX7_messageAt_5 : decode cX7_messageAt 5 = .ok (.iload_n 0, 1) := by decide +kernel
theorem dX7_messageAt_6 : decode cX7_messageAt 6 = .ok (.imul, 1) := by decide +kernel
theorem dX7_messageAt_7 : decode cX7_messageAt 7 = .ok (.iadd, 1) := by decide +kernel
theorem dX7_messageAt_8 : decode cX7_messageAt 8 = .ok (.ireturn, 1) := by decide +kernel
theorem dX7_begins_0 : decode cX7_begins 0 = .ok (.aload_n 0, 1) := by decide +kernel
theorem dX7_begins_1 : decode cX7_begins 1 = .ok (.bipush 8, 2) := by decide +kernel
theorem dX7_begins_3 : decode cX7_begins 3 = .ok (.iaload, 1) := by decide +kernel
theorem dX7_begins_4 : decode cX7_begins 4 = .ok (.invokestatic 74, 3) := by decide +kernel
theorem dX7_begins_7 : decode cX7_begins 7 = .ok (.istore 6, 2) := by decide +kernel
theorem dX7_begins_9 : decode cX7_begins 9 = .ok (.iconst 0, 1) := by decide +kernel
theorem dX7_begins_10 : decode cX7_begins 10 = .ok (.istore 7, 2) := by decide +kernel
theorem dX7_begins_12 : decode cX7_begins 12 = .ok (.iload 7, 2) := by decide +kernel
theorem dX7_begins_14 : decode cX7_begins 14 = .ok (.bipush 12, 2) := by decide +kernel
theorem dX7_begins_16 : decode cX7_begins 16 = .ok (.if_icmp .ge 17, 3) := by decide +kernel
theorem dX7_begins_19 : decode cX7_begins 19 = .ok (.aload_n 0, 1) := by decide +kernel
theorem dX7_begins_20 : decode cX7_begins 20 = .ok (.iload 6, 2) := by decide +kernel
theorem dX7_begins_22 : decode cX7_begins 22 = .ok (.iload 7, 2) := by decide +kernel
theorem dX7_begins_24 : decode cX7_begins 24 = .ok (.iadd, 1) := by decide +kernel
theorem dX7_begins_25 : decode cX7_begins 25 = .ok (.iconst 0, 1) := by decide +kernel
theorem dX7_begins_26 : decode cX7_begins 26 = .ok (.iastore, 1) := by decide +kernel
theorem dX7_begins_27 : decode cX7_begins 27 = .ok (.iinc 7 1, 3) := by decide +kernel
theorem dX7_begins_30 : decode cX7_begins 30 = .ok (.goto (-18), 3) := by decide +kernel
theorem dX7_begins_33 : decode cX7_begins 33 = .ok (.aload_n 0, 1) := by decide +kernel
theorem dX7_begins_34 : decode cX7_begins 34 = .ok (.iload 6, 2) := by decide +kernel
theorem dX7_begins_36 : decode cX7_begins 36 = .ok (.iconst 0, 1) := by decide +kernel
theorem dX7_begins_37 : decode cX7_begins 37 = .ok (.iadd, 1) := by decide +kernel
theorem dX7_begins_38 : decode cX7_begins 38 = .ok (.iload_n 1, 1) := by decide +kernel
theorem dX7_begins_39 : decode cX7_begins 39 = .ok (.iastore, 1) := by decide +kernel
theorem dX7_begins_40 : decode cX7_begins 40 = .ok (.aload_n 0, 1) := by decide +kernel
theorem dX7_begins_41 : decode cX7_begins 41 = .ok (.iload 6, 2) := by decide +kernel
theorem dX7_begins_43 : decode cX7_begins 43 = .ok (.iconst 1, 1) := by decide +kernel
theorem dX7_begins_44 : decode cX7_begins 44 = .ok (.iadd, 1) := by decide +kernel
theorem dX7_begins_45 : decode cX7_begins 45 = .ok (.iload_n 2, 1) := by decide +kernel
theorem dX7_begins_46 : decode cX7_begins 46 = .ok (.iastore, 1) := by decide +kernel
theorem dX7_begins_47 : decode cX7_begins 47 = .ok (.aload_n 0, 1) := by decide +kernel
theorem dX7_begins_48 : decode cX7_begins 48 = .ok (.iload 6, 2) := by decide +kernel
theorem dX7_begins_50 : decode cX7_begins 50 = .ok (.iconst 2, 1) := by decide +kernel
theorem dX7_begins_51 : decode cX7_begins 51 = .ok (.iadd, 1) := by decide +kernel
theorem dX7_begins_52 : decode cX7_begins 52 = .ok (.iload_n 3, 1) := by decide +kernel
theorem dX7_begins_53 : decode cX7_begins 53 = .ok (.iastore, 1) := by decide +kernel
theorem dX7_begins_54 : decode cX7_begins 54 = .ok (.aload_n 0, 1) := by decide +kernel
theorem dX7_begins_55 : decode cX7_begins 55 = .ok (.iload 6, 2) := by decide +kernel
theorem dX7_begins_57 : decode cX7_begins 57 = .ok (.iconst 4, 1) := by decide +kernel
theorem dX7_begins_58 : decode cX7_begins 58 = .ok (.iadd, 1) := by decide +kernel
theorem dX7_begins_59 : decode cX7_begins 59 = .ok (.iload 4, 2) := by decide +kernel
theorem dX7_begins_61 : decode cX7_begins 61 = .ok (.iastore, 1) := by decide +kernel
theorem dX7_begins_62 : decode cX7_begins 62 = .ok (.aload_n 0, 1) := by decide +kernel
theorem dX7_begins_63 : decode cX7_begins 63 = .ok (.iload 6, 2) := by decide +kernel
theorem dX7_begins_65 : decode cX7_begins 65 = .ok (.iconst 5, 1) := by decide +kernel
theorem dX7_begins_66 : decode cX7_begins 66 = .ok (.iadd, 1) := by decide +kernel
theorem dX7_begins_67 : decode cX7_begins 67 = .ok (.iload 5, 2) := by decide +kernel
theorem dX7_begins_69 : decode cX7_begins 69 = .ok (.iastore, 1) := by decide +kernel
theorem dX7_begins_70 : decode cX7_begins 70 = .ok (.aload_n 0, 1) := by decide +kernel
theorem dX7_begins_71 : decode cX7_begins 71 = .ok (.iload 6, 2) := by decide +kernel
theorem dX7_begins_73 : decode cX7_begins 73 = .ok (.bipush 8, 2) := by decide +kernel
theorem dX7_begins_75 : decode cX7_begins 75 = .ok (.iadd, 1) := by decide +kernel
theorem dX7_begins_76 : decode cX7_begins 76 = .ok (.aload_n 0, 1) := by decide +kernel
theorem dX7_begins_77 : decode cX7_begins 77 = .ok (.iload_n 1, 1) := by decide +kernel
theorem dX7_begins_78 : decode cX7_begins 78 = .ok (.invokestatic 78, 3) := by decide +kernel
theorem dX7_begins_81 : decode cX7_begins 81 = .ok (.iconst 0, 1) := by decide +kernel
theorem dX7_begins_82 : decode cX7_begins 82 = .ok (.iadd, 1) := by decide +kernel
theorem dX7_begins_83 : decode cX7_begins 83 = .ok (.iaload, 1) := by decide +kernel
theorem dX7_begins_84 : decode cX7_begins 84 = .ok (.ifCond .eq 9, 3) := by decide +kernel
theorem dX7_begins_87 : decode cX7_begins 87 = .ok (.aload_n 0, 1) := by decide +kernel
theorem dX7_begins_88 : decode cX7_begins 88 = .ok (.iconst 0, 1) := by decide +kernel
theorem dX7_begins_89 : decode cX7_begins 89 = .ok (.iaload, 1) := by decide +kernel
theorem dX7_begins_90 : decode cX7_begins 90 = .ok (.goto 4, 3) := by decide +kernel
theorem dX7_begins_94 : decode cX7_begins 94 = .ok (.iastore, 1) := by decide +kernel
theorem dX7_begins_95 : decode cX7_begins 95 = .ok (.aload_n 0, 1) := by decide +kernel
theorem dX7_begins_96 : decode cX7_begins 96 = .ok (.bipush 8, 2) := by decide +kernel
theorem dX7_begins_98 : decode cX7_begins 98 = .ok (.dup2, 1) := by decide +kernel
theorem dX7_begins_99 : decode cX7_begins 99 = .ok (.iaload, 1) := by decide +kernel
theorem dX7_begins_100 : decode cX7_begins 100 = .ok (.iconst 1, 1) := by decide +kernel
theorem dX7_begins_101 : decode cX7_begins 101 = .ok (.iadd, 1) := by decide +kernel
theorem dX7_begins_102 : decode cX7_begins 102 = .ok (.iastore, 1) := by decide +kernel
theorem dX7_begins_103 : decode cX7_begins 103 = .ok (.return_, 1) := by decide +kernel
theorem dX7_browses_0 : decode cX7_browses 0 = .ok (.iload_n 1, 1) := by decide +kernel
theorem dX7_browses_1 : decode cX7_browses 1 = .ok (.iload_n 2, 1) := by decide +kernel
theorem dX7_browses_2 : decode cX7_browses 2 = .ok (.invokestatic 81, 3) := by decide +kernel
theorem dX7_browses_5 : decode cX7_browses 5 = .ok (.istore_n 3, 1) := by decide +kernel
theorem dX7_browses_6 : decode cX7_browses 6 = .ok (.aload_n 0, 1) := by decide +kernel
theorem dX7_browses_7 : decode cX7_browses 7 = .ok (.iload_n 3, 1) := by decide +kernel
theorem dX7_browses_8 : decode cX7_browses 8 = .ok (.iconst 0, 1) := by decide +kernel
theorem dX7_browses_9 : decode cX7_browses 9 = .ok (.iadd, 1) := by decide +kernel
theorem dX7_browses_10 : decode cX7_browses 10 = .ok (.iconst 1, 1) := by decide +kernel
theorem dX7_browses_11 : decode cX7_browses 11 = .ok (.iastore, 1) := by decide +kernel
theorem dX7_browses_12 : decode cX7_browses 12 = .ok (.aload_n 0, 1) := by decide +kernel
theorem dX7_browses_13 : decode cX7_browses 13 = .ok (.iload_n 3, 1) := by decide +kernel
theorem dX7_browses_14 : decode cX7_browses 14 = .ok (.iconst 1, 1) := by decide +kernel
theorem dX7_browses_15 : decode cX7_browses 15 = .ok (.iadd, 1) := by decide +kernel
theorem dX7_browses_16 : decode cX7_browses 16 = .ok (.aload_n 0, 1) := by decide +kernel
theorem dX7_browses_17 : decode cX7_browses 17 = .ok (.iconst 0, 1) := by decide +kernel
theorem dX7_browses_18 : decode cX7_browses 18 = .ok (.iaload, 1) := by decide +kernel
theorem dX7_browses_19 : decode cX7_browses 19 = .ok (.iastore, 1) := by decide +kernel
theorem dX7_browses_20 : decode cX7_browses 20 = .ok (.aload_n 0, 1) := by decide +kernel
theorem dX7_browses_21 : decode cX7_browses 21 = .ok (.iload_n 3, 1) := by decide +kernel
theorem dX7_browses_22 : decode cX7_browses 22 = .ok (.iconst 2, 1) := by decide +kernel
theorem dX7_browses_23 : decode cX7_browses 23 = .ok (.iadd, 1) := by decide +kernel
theorem dX7_browses_24 : decode cX7_browses 24 = .ok (.iconst 2, 1) := by decide +kernel
theorem dX7_browses_25 : decode cX7_browses 25 = .ok (.iastore, 1) := by decide +kernel
theorem dX7_browses_26 : decode cX7_browses 26 = .ok (.aload_n 0, 1) := by decide +kernel
theorem dX7_browses_27 : decode cX7_browses 27 = .ok (.iload_n 3, 1) := by decide +kernel
theorem dX7_browses_28 : decode cX7_browses 28 = .ok (.iconst 3, 1) := by decide +kernel
theorem dX7_browses_29 : decode cX7_browses 29 = .ok (.iadd, 1) := by decide +kernel
theorem dX7_browses_30 : decode cX7_browses 30 = .ok (.iconst 0, 1) := by decide +kernel
theorem dX7_browses_31 : decode cX7_browses 31 = .ok (.iastore, 1) := by decide +kernel
theorem dX7_browses_32 : decode cX7_browses 32 = .ok (.aload_n 0, 1) := by decide +kernel
theorem dX7_browses_33 : decode cX7_browses 33 = .ok (.iload_n 3, 1) := by decide +kernel
theorem dX7_browses_34 : decode cX7_browses 34 = .ok (.iconst 4, 1) := by decide +kernel
theorem dX7_browses_35 : decode cX7_browses 35 = .ok (.iadd, 1) := by decide +kernel
theorem dX7_browses_36 : decode cX7_browses 36 = .ok (.iconst 0, 1) := by decide +kernel
theorem dX7_browses_37 : decode cX7_browses 37 = .ok (.iastore, 1) := by decide +kernel
theorem dX7_browses_38 : decode cX7_browses 38 = .ok (.return_, 1) := by decide +kernel
theorem dX7_hasName_0 : decode cX7_hasName 0 = .ok (.iconst 0, 1) := by decide +kernel
theorem dX7_hasName_1 : decode cX7_hasName 1 = .ok (.istore 6, 2) := by decide +kernel
theorem dX7_hasName_3 : decode cX7_hasName 3 = .ok (.iload 6, 2) := by decide +kernel
theorem dX7_hasName_5 : decode cX7_hasName 5 = .ok (.aload_n 0, 1) := by decide +kernel
theorem dX7_hasName_6 : decode cX7_hasName 6 = .ok (.bipush 8, 2) := by decide +kernel
theorem dX7_hasName_8 : decode cX7_hasName 8 = .ok (.iaload, 1) := by decide +kernel
theorem dX7_hasName_9 : decode cX7_hasName 9 = .ok (.if_icmp .ge 77, 3) := by decide +kernel
theorem dX7_hasName_12 : decode cX7_hasName 12 = .ok (.iload 6, 2) := by decide +kernel
theorem dX7_hasName_14 : decode cX7_hasName 14 = .ok (.invokestatic 74, 3) := by decide +kernel
theorem dX7_hasName_17 : decode cX7_hasName 17 = .ok (.istore 7, 2) := by decide +kernel
theorem dX7_hasName_19 : decode cX7_hasName 19 = .ok (.iload 6, 2) := by decide +kernel
theorem dX7_hasName_21 : decode cX7_hasName 21 = .ok (.iload 5, 2) := by decide +kernel
theorem dX7_hasName_23 : decode cX7_hasName 23 = .ok (.if_icmp .eq 57, 3) := by decide +kernel
theorem dX7_hasName_26 : decode cX7_hasName 26 = .ok (.aload_n 0, 1) := by decide +kernel
theorem dX7_hasName_27 : decode cX7_hasName 27 = .ok (.iload 7, 2) := by decide +kernel
theorem dX7_hasName_29 : decode cX7_hasName 29 = .ok (.iconst 0, 1) := by decide +kernel
theorem dX7_hasName_30 : decode cX7_hasName 30 = .ok (.iadd, 1) := by decide +kernel
theorem dX7_hasName_31 : decode cX7_hasName 31 = .ok (.iaload, 1) := by decide +kernel
theorem dX7_hasName_32 : decode cX7_hasName 32 = .ok (.iload_n 1, 1) := by decide +kernel
theorem dX7_hasName_33 : decode cX7_hasName 33 = .ok (.if_icmp .ne 47, 3) := by decide +kernel
theorem dX7_hasName_36 : decode cX7_hasName 36 = .ok (.aload_n 0, 1) := by decide +kernel
theorem dX7_hasName_37 : decode cX7_hasName 37 = .ok (.iload 7, 2) := by decide +kernel
theorem dX7_hasName_39 : decode cX7_hasName 39 = .ok (.bipush 6, 2) := by decide +kernel
theorem dX7_hasName_41 : decode cX7_hasName 41 = .ok (.iadd, 1) := by decide +kernel
theorem dX7_hasName_42 : decode cX7_hasName 42 = .ok (.iaload, 1) := by decide +kernel
theorem dX7_hasName_43 : decode cX7_hasName 43 = .ok (.iconst 3, 1) := by decide +kernel
theorem dX7_hasName_44 : decode cX7_hasName 44 = .ok (.if_icmp .eq 36, 3) := by decide +kernel
theorem dX7_hasName_47 : decode cX7_hasName 47 = .ok (.aload_n 0, 1) := by decide +kernel
theorem dX7_hasName_48 : decode cX7_hasName 48 = .ok (.iload 7, 2) := by decide +kernel
theorem dX7_hasName_50 : decode cX7_hasName 50 = .ok (.iconst 1, 1) := by decide +kernel
theorem dX7_hasName_51 : decode cX7_hasName 51 = .ok (.iadd, 1) := by decide +kernel
theorem dX7_hasName_52 : decode cX7_hasName 52 = .ok (.iaload, 1) := by decide +kernel
theorem dX7_hasName_53 : decode cX7_hasName 53 = .ok (.iload_n 2, 1) := by decide +kernel
theorem dX7_hasName_54 : decode cX7_hasName 54 = .ok (.if_icmp .ne 26, 3) := by decide +kernel
theorem dX7_hasName_57 : decode cX7_hasName 57 = .ok (.aload_n 0, 1) := by decide +kernel
theorem dX7_hasName_58 : decode cX7_hasName 58 = .ok (.iload 7, 2) := by decide +kernel
theorem dX7_hasName_60 : decode cX7_hasName 60 = .ok (.iconst 2, 1) := by decide +kernel
theorem dX7_hasName_61 : decode cX7_hasName 61 = .ok (.iadd, 1) := by decide +kernel
theorem dX7_hasName_62 : decode cX7_hasName 62 = .ok (.iaload, 1) := by decide +kernel
theorem dX7_hasName_63 : decode cX7_hasName 63 = .ok (.iload_n 3, 1) := by decide +kernel
theorem dX7_hasName_64 : decode cX7_hasName 64 = .ok (.if_icmp .ne 16, 3) := by decide +kernel
theorem dX7_hasName_67 : decode cX7_hasName 67 = .ok (.aload_n 0, 1) := by decide +kernel
theorem dX7_hasName_68 : decode cX7_hasName 68 = .ok (.iload 7, 2) := by decide +kernel
theorem dX7_hasName_70 : decode cX7_hasName 70 = .ok (.iconst 3, 1) := by decide +kernel
theorem dX7_hasName_71 : decode cX7_hasName 71 = .ok (.iadd, 1) := by decide +kernel
theorem dX7_hasName_72 : decode cX7_hasName 72 = .ok (.iaload, 1) := by decide +kernel
theorem dX7_hasName_73 : decode cX7_hasName 73 = .ok (.iload 4, 2) := by decide +kernel
theorem dX7_hasName_75 : decode cX7_hasName 75 = .ok (.if_icmp .ne 5, 3) := by decide +kernel
theorem dX7_hasName_78 : decode cX7_hasName 78 = .ok (.iconst 1, 1) := by decide +kernel
theorem dX7_hasName_79 : decode cX7_hasName 79 = .ok (.ireturn, 1) := by decide +kernel
theorem dX7_hasName_80 : decode cX7_hasName 80 = .ok (.iinc 6 1, 3) := by decide +kernel
theorem dX7_hasName_83 : decode cX7_hasName 83 = .ok (.goto (-80), 3) := by decide +kernel
theorem dX7_hasName_86 : decode cX7_hasName 86 = .ok (.iconst 0, 1) := by decide +kernel
theorem dX7_hasName_87 : decode cX7_hasName 87 = .ok (.ireturn, 1) := by decide +kernel
theorem dX7_isIn_0 : decode cX7_isIn 0 = .ok (.iconst 0, 1) := by decide +kernel
theorem dX7_isIn_1 : decode cX7_isIn 1 = .ok (.istore_n 2, 1) := by decide +kernel
theorem dX7_isIn_2 : decode cX7_isIn 2 = .ok (.iload_n 2, 1) := by decide +kernel
theorem dX7_isIn_3 : decode cX7_isIn 3 = .ok (.aload_n 0, 1) := by decide +kernel
theorem dX7_isIn_4 : decode cX7_isIn 4 = .ok (.bipush 7, 2) := by decide +kernel
theorem dX7_isIn_6 : decode cX7_isIn 6 = .ok (.iaload, 1) := by decide +kernel
theorem dX7_isIn_7 : decode cX7_isIn 7 = .ok (.if_icmp .ge 22, 3) := by decide +kernel
theorem dX7_isIn_10 : decode cX7_isIn 10 = .ok (.aload_n 0, 1) := by decide +kernel
theorem dX7_isIn_11 : decode cX7_isIn 11 = .ok (.sipush 1077, 3) := by decide +kernel
theorem dX7_isIn_14 : decode cX7_isIn 14 = .ok (.iload_n 2, 1) := by decide +kernel
theorem dX7_isIn_15 : decode cX7_isIn 15 = .ok (.iadd, 1) := by decide +kernel
theorem dX7_isIn_16 : decode cX7_isIn 16 = .ok (.iaload, 1) := by decide +kernel
theorem dX7_isIn_17 : decode cX7_isIn 17 = .ok (.iload_n 1, 1) := by decide +kernel
theorem dX7_isIn_18 : decode cX7_isIn 18 = .ok (.if_icmp .ne 5, 3) := by decide +kernel
theorem dX7_isIn_21 : decode cX7_isIn 21 = .ok (.iconst 1, 1) := by decide +kernel
theorem dX7_isIn_22 : decode cX7_isIn 22 = .ok (.ireturn, 1) := by decide +kernel
theorem dX7_isIn_29 : decode cX7_isIn 29 = .ok (.iconst 0, 1) := by decide +kernel
theorem dX7_isIn_30 : decode cX7_isIn 30 = .ok (.ireturn, 1) := by decide +kernel
theorem dX7_bytes_0 : decode cX7_bytes 0 = .ok (.bipush 24, 2) := by decide +kernel
theorem dX7_bytes_2 : decode cX7_bytes 2 = .ok (.istore_n 2, 1) := by decide +kernel
theorem dX7_bytes_3 : decode cX7_bytes 3 = .ok (.iload_n 2, 1) := by decide +kernel
theorem dX7_bytes_4 : decode cX7_bytes 4 = .ok (.ifCond .lt 35, 3) := by decide +kernel
theorem dX7_bytes_7 : decode cX7_bytes 7 = .ok (.aload_n 0, 1) := by decide +kernel
theorem dX7_bytes_8 : decode cX7_bytes 8 = .ok (.getfield 35, 3) := by decide +kernel
theorem dX7_bytes_11 : decode cX7_bytes 11 = .ok (.aload_n 0, 1) := by decide +kernel
theorem dX7_bytes_12 : decode cX7_bytes 12 = .ok (.getfield 85, 3) := by decide +kernel
theorem dX7_bytes_15 : decode cX7_bytes 15 = .ok (.iload_n 1, 1) := by decide +kernel
theorem dX7_bytes_16 : decode cX7_bytes 16 = .ok (.iload_n 2, 1) := by decide +kernel
theorem dX7_bytes_17 : decode cX7_bytes 17 = .ok (.ishr, 1) := by decide +kernel
theorem dX7_bytes_18 : decode cX7_bytes 18 = .ok (.sipush 255, 3) := by decide +kernel
theorem dX7_bytes_21 : decode cX7_bytes 21 = .ok (.iand, 1) := by decide +kernel
theorem dX7_bytes_22 : decode cX7_bytes 22 = .ok (.iastore, 1) := by decide +kernel
theorem dX7_bytes_23 : decode cX7_bytes 23 = .ok (.aload_n 0, 1) := by decide +kernel
theorem dX7_bytes_24 : decode cX7_bytes 24 = .ok (.dup, 1) := by decide +kernel
theorem dX7_bytes_25 : decode cX7_bytes 25 = .ok (.getfield 85, 3) := by decide +kernel
theorem dX7_bytes_28 : decode cX7_bytes 28 = .ok (.iconst 1, 1) := by decide +kernel
theorem dX7_bytes_29 : decode cX7_bytes 29 = .ok (.iadd, 1) := by decide +kernel
theorem dX7_bytes_30 : decode cX7_bytes 30 = .ok (.putfield 85, 3) := by decide +kernel
theorem dX7_bytes_33 : decode cX7_bytes 33 = .ok (.iinc 2 (-8), 3) := by decide +kernel
theorem dX7_bytes_36 : decode cX7_bytes 36 = .ok (.goto (-33), 3) := by decide +kernel
theorem dX7_bytes_39 : decode cX7_bytes 39 = .ok (.return_, 1) := by decide +kernel
theorem dX7_append_0 : decode cX7_append 0 = .ok (.aload_n 0, 1) := by decide +kernel
theorem dX7_append_1 : decode cX7_append 1 = .ok (.aload_n 0, 1) := by decide +kernel
theorem dX7_append_2 : decode cX7_append 2 = .ok (.getfield 85, 3) := by decide +kernel
theorem dX7_append_5 : decode cX7_append 5 = .ok (.bipush 20, 2) := by decide +kernel
theorem dX7_append_7 : decode cX7_append 7 = .ok (.iadd, 1) := by decide +kernel
theorem dX7_append_8 : decode cX7_append 8 = .ok (.sipush 800, 3) := by decide +kernel
theorem dX7_append_11 : decode cX7_append 11 = .ok (.if_icmp .le 7, 3) := by decide +kernel
theorem dX7_append_14 : decode cX7_append 14 = .ok (.iconst 1, 1) := by decide +kernel
theorem dX7_append_15 : decode cX7_append 15 = .ok (.goto 4, 3) := by decide +kernel
theorem dX7_append_18 : decode cX7_append 18 = .ok (.iconst 0, 1) := by decide +kernel
theorem dX7_append_19 : decode cX7_append 19 = .ok (.putfield 71, 3) := by decide +kernel
theorem dX7_append_22 : decode cX7_append 22 = .ok (.aload_n 0, 1) := by decide +kernel
theorem dX7_append_23 : decode cX7_append 23 = .ok (.getfield 71, 3) := by decide +kernel
theorem dX7_append_26 : decode cX7_append 26 = .ok (.ifCond .le 5, 3) := by decide +kernel
theorem dX7_append_29 : decode cX7_append 29 = .ok (.iconst 0, 1) := by decide +kernel
theorem dX7_append_30 : decode cX7_append 30 = .ok (.ireturn, 1) := by decide +kernel
theorem dX7_append_31 : decode cX7_append 31 = .ok (.aload_n 0, 1) := by decide +kernel
theorem dX7_append_32 : decode cX7_append 32 = .ok (.iload_n 1, 1) := by decide +kernel
theorem dX7_append_33 : decode cX7_append 33 = .ok (.invokevirtual 88, 3) := by decide +kernel
theorem dX7_append_36 : decode cX7_append 36 = .ok (.aload_n 0, 1) := by decide +kernel
theorem dX7_append_37 : decode cX7_append 37 = .ok (.iload_n 2, 1) := by decide +kernel
theorem dX7_append_38 : decode cX7_append 38 = .ok (.invokevirtual 88, 3) := by decide +kernel
theorem dX7_append_41 : decode cX7_append 41 = .ok (.aload_n 0, 1) := by decide +kernel
theorem dX7_append_42 : decode cX7_append 42 = .ok (.iload_n 3, 1) := by decide +kernel
theorem dX7_append_43 : decode cX7_append 43 = .ok (.invokevirtual 88, 3) := by decide +kernel
theorem dX7_append_46 : decode cX7_append 46 = .ok (.aload_n 0, 1) := by decide +kernel
theorem dX7_append_47 : decode cX7_append 47 = .ok (.iload 4, 2) := by decide +kernel
theorem dX7_append_49 : decode cX7_append 49 = .ok (.invokevirtual 88, 3) := by decide +kernel
theorem dX7_append_52 : decode cX7_append 52 = .ok (.aload_n 0, 1) := by decide +kernel
theorem dX7_append_53 : decode cX7_append 53 = .ok (.iload 5, 2) := by decide +kernel
theorem dX7_append_55 : decode cX7_append 55 = .ok (.invokevirtual 88, 3) := by decide +kernel
theorem dX7_append_58 : decode cX7_append 58 = .ok (.aload_n 0, 1) := by decide +kernel
theorem dX7_append_59 : decode cX7_append 59 = .ok (.getfield 85, 3) := by decide +kernel
theorem dX7_append_62 : decode cX7_append 62 = .ok (.ireturn, 1) := by decide +kernel
theorem dX7_truncate_0 : decode cX7_truncate 0 = .ok (.aload_n 0, 1) := by decide +kernel
theorem dX7_truncate_1 : decode cX7_truncate 1 = .ok (.iload_n 1, 1) := by decide +kernel
theorem dX7_truncate_2 : decode cX7_truncate 2 = .ok (.i2l, 1) := by decide +kernel
theorem dX7_truncate_3 : decode cX7_truncate 3 = .ok (.lconst 0, 1) := by decide +kernel
theorem dX7_truncate_4 : decode cX7_truncate 4 = .ok (.aload_n 0, 1) := by decide +kernel
theorem dX7_truncate_5 : decode cX7_truncate 5 = .ok (.getfield 85, 3) := by decide +kernel
theorem dX7_truncate_8 : decode cX7_truncate 8 = .ok (.i2l, 1) := by decide +kernel
theorem dX7_truncate_9 : decode cX7_truncate 9 = .ok (.invokestatic 92, 3) := by decide +kernel
theorem dX7_truncate_12 : decode cX7_truncate 12 = .ok (.ifCond .eq 7, 3) := by decide +kernel
theorem dX7_truncate_15 : decode cX7_truncate 15 = .ok (.iconst 0, 1) := by decide +kernel
theorem dX7_truncate_16 : decode cX7_truncate 16 = .ok (.goto 4, 3) := by decide +kernel
theorem dX7_truncate_19 : decode cX7_truncate 19 = .ok (.iconst 1, 1) := by decide +kernel
theorem dX7_truncate_20 : decode cX7_truncate 20 = .ok (.putfield 71, 3) := by decide +kernel
theorem dX7_truncate_23 : decode cX7_truncate 23 = .ok (.aload_n 0, 1) := by decide +kernel
theorem dX7_truncate_24 : decode cX7_truncate 24 = .ok (.getfield 71, 3) := by decide +kernel
theorem dX7_truncate_27 : decode cX7_truncate 27 = .ok (.ifCond .le 5, 3) := by decide +kernel
theorem dX7_truncate_30 : decode cX7_truncate 30 = .ok (.iconst 0, 1) := by decide +kernel
theorem dX7_truncate_31 : decode cX7_truncate 31 = .ok (.ireturn, 1) := by decide +kernel
