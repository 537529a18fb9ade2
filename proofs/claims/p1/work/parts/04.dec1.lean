theorem dX1_probeComes_19 : decode cX1_probeComes 19 = .ok (.invokevirtual 104, 3) := by decide +kernel
theorem dX1_probeComes_22 : decode cX1_probeComes 22 = .ok (.iload_n 2, 1) := by decide +kernel
theorem dX1_probeComes_23 : decode cX1_probeComes 23 = .ok (.if_icmp .ne 132, 3) := by decide +kernel
theorem dX1_probeComes_26 : decode cX1_probeComes 26 = .ok (.aload_n 0, 1) := by decide +kernel
theorem dX1_probeComes_27 : decode cX1_probeComes 27 = .ok (.getfield 23, 3) := by decide +kernel
theorem dX1_probeComes_30 : decode cX1_probeComes 30 = .ok (.iload_n 3, 1) := by decide +kernel
theorem dX1_probeComes_31 : decode cX1_probeComes 31 = .ok (.aload_n 0, 1) := by decide +kernel
theorem dX1_probeComes_32 : decode cX1_probeComes 32 = .ok (.getfield 48, 3) := by decide +kernel
theorem dX1_probeComes_35 : decode cX1_probeComes 35 = .ok (.getfield 207, 3) := by decide +kernel
theorem dX1_probeComes_38 : decode cX1_probeComes 38 = .ok (.iload_n 1, 1) := by decide +kernel
theorem dX1_probeComes_39 : decode cX1_probeComes 39 = .ok (.invokevirtual 146, 3) := by decide +kernel
theorem dX1_probeComes_42 : decode cX1_probeComes 42 = .ok (.ifCond .eq 113, 3) := by decide +kernel
theorem dX1_probeComes_45 : decode cX1_probeComes 45 = .ok (.aload_n 0, 1) := by decide +kernel
theorem dX1_probeComes_46 : decode cX1_probeComes 46 = .ok (.getfield 23, 3) := by decide +kernel
theorem dX1_probeComes_49 : decode cX1_probeComes 49 = .ok (.iload_n 3, 1) := by decide +kernel
theorem dX1_probeComes_50 : decode cX1_probeComes 50 = .ok (.bipush 6, 2) := by decide +kernel
theorem dX1_probeComes_52 : decode cX1_probeComes 52 = .ok (.invokevirtual 104, 3) := by decide +kernel
theorem dX1_probeComes_55 : decode cX1_probeComes 55 = .ok (.ifCond .ne 20, 3) := by decide +kernel
theorem dX1_probeComes_58 : decode cX1_probeComes 58 = .ok (.aload_n 0, 1) := by decide +kernel
theorem dX1_probeComes_59 : decode cX1_probeComes 59 = .ok (.getfield 23, 3) := by decide +kernel
theorem dX1_probeComes_62 : decode cX1_probeComes 62 = .ok (.iload_n 3, 1) := by decide +kernel
theorem dX1_probeComes_63 : decode cX1_probeComes 63 = .ok (.bipush 7, 2) := by decide +kernel
theorem dX1_probeComes_65 : decode cX1_probeComes 65 = .ok (.invokevirtual 104, 3) := by decide +kernel
theorem dX1_probeComes_68 : decode cX1_probeComes 68 = .ok (.ifCond .le 7, 3) := by decide +kernel
theorem dX1_probeComes_71 : decode cX1_probeComes 71 = .ok (.iconst 1, 1) := by decide +kernel
theorem dX1_probeComes_72 : decode cX1_probeComes 72 = .ok (.goto 4, 3) := by decide +kernel
theorem dX1_probeComes_75 : decode cX1_probeComes 75 = .ok (.iconst 0, 1) := by decide +kernel
theorem dX1_probeComes_76 : decode cX1_probeComes 76 = .ok (.istore 4, 2) := by decide +kernel
theorem dX1_probeComes_78 : decode cX1_probeComes 78 = .ok (.aload_n 0, 1) := by decide +kernel
theorem dX1_probeComes_79 : decode cX1_probeComes 79 = .ok (.iload_n 3, 1) := by decide +kernel
theorem dX1_probeComes_80 : decode cX1_probeComes 80 = .ok (.invokevirtual 154, 3) := by decide +kernel
theorem dX1_probeComes_83 : decode cX1_probeComes 83 = .ok (.ifCond .eq 12, 3) := by decide +kernel
theorem dX1_probeComes_86 : decode cX1_probeComes 86 = .ok (.aload_n 0, 1) := by decide +kernel
theorem dX1_probeComes_87 : decode cX1_probeComes 87 = .ok (.iload_n 3, 1) := by decide +kernel
theorem dX1_probeComes_88 : decode cX1_probeComes 88 = .ok (.iconst 1, 1) := by decide +kernel
theorem dX1_probeComes_89 : decode cX1_probeComes 89 = .ok (.invokevirtual 276, 3) := by decide +kernel
theorem dX1_probeComes_92 : decode cX1_probeComes 92 = .ok (.goto 63, 3) := by decide +kernel
theorem dX1_probeComes_95 : decode cX1_probeComes 95 = .ok (.iload 4, 2) := by decide +kernel
theorem dX1_probeComes_97 : decode cX1_probeComes 97 = .ok (.ifCond .eq 58, 3) := by decide +kernel
theorem dX1_probeComes_100 : decode cX1_probeComes 100 = .ok (.aload_n 0, 1) := by decide +kernel
theorem dX1_probeComes_101 : decode cX1_probeComes 101 = .ok (.getfield 23, 3) := by decide +kernel
theorem dX1_probeComes_104 : decode cX1_probeComes 104 = .ok (.iload_n 3, 1) := by decide +kernel
theorem dX1_probeComes_105 : decode cX1_probeComes 105 = .ok (.aload_n 0, 1) := by decide +kernel
theorem dX1_probeComes_106 : decode cX1_probeComes 106 = .ok (.getfield 48, 3) := by decide +kernel
theorem dX1_probeComes_109 : decode cX1_probeComes 109 = .ok (.getfield 207, 3) := by decide +kernel
theorem dX1_probeComes_112 : decode cX1_probeComes 112 = .ok (.iload_n 1, 1) := by decide +kernel
theorem dX1_probeComes_113 : decode cX1_probeComes 113 = .ok (.invokevirtual 150, 3) := by decide +kernel
theorem dX1_probeComes_116 : decode cX1_probeComes 116 = .ok (.ifCond .ge 39, 3) := by decide +kernel
theorem dX1_probeComes_119 : decode cX1_probeComes 119 = .ok (.aload_n 0, 1) := by decide +kernel
theorem dX1_probeComes_120 : decode cX1_probeComes 120 = .ok (.getfield 23, 3) := by decide +kernel
theorem dX1_probeComes_123 : decode cX1_probeComes 123 = .ok (.iload_n 3, 1) := by decide +kernel
theorem dX1_probeComes_124 : decode cX1_probeComes 124 = .ok (.bipush 10, 2) := by decide +kernel
theorem dX1_probeComes_126 : decode cX1_probeComes 126 = .ok (.invokevirtual 279, 3) := by decide +kernel
theorem dX1_probeComes_129 : decode cX1_probeComes 129 = .ok (.aload_n 0, 1) := by decide +kernel
theorem dX1_probeComes_130 : decode cX1_probeComes 130 = .ok (.iconst 1, 1) := by decide +kernel
theorem dX1_probeComes_131 : decode cX1_probeComes 131 = .ok (.iload_n 3, 1) := by decide +kernel
theorem dX1_probeComes_132 : decode cX1_probeComes 132 = .ok (.aload_n 0, 1) := by decide +kernel
theorem dX1_probeComes_133 : decode cX1_probeComes 133 = .ok (.getfield 23, 3) := by decide +kernel
theorem dX1_probeComes_136 : decode cX1_probeComes 136 = .ok (.iload_n 3, 1) := by decide +kernel
theorem dX1_probeComes_137 : decode cX1_probeComes 137 = .ok (.iconst 2, 1) := by decide +kernel
theorem dX1_probeComes_138 : decode cX1_probeComes 138 = .ok (.invokevirtual 104, 3) := by decide +kernel
theorem dX1_probeComes_141 : decode cX1_probeComes 141 = .ok (.invokevirtual 282, 3) := by decide +kernel
theorem dX1_probeComes_144 : decode cX1_probeComes 144 = .ok (.aload_n 0, 1) := by decide +kernel
theorem dX1_probeComes_145 : decode cX1_probeComes 145 = .ok (.iload_n 3, 1) := by decide +kernel
theorem dX1_probeComes_146 : decode cX1_probeComes 146 = .ok (.aload_n 0, 1) := by decide +kernel
theorem dX1_probeComes_147 : decode cX1_probeComes 147 = .ok (.getfield 74, 3) := by decide +kernel
theorem dX1_probeComes_150 : decode cX1_probeComes 150 = .ok (.iconst 4, 1) := by decide +kernel
theorem dX1_probeComes_151 : decode cX1_probeComes 151 = .ok (.iadd, 1) := by decide +kernel
theorem dX1_probeComes_152 : decode cX1_probeComes 152 = .ok (.invokevirtual 285, 3) := by decide +kernel
theorem dX1_probeComes_155 : decode cX1_probeComes 155 = .ok (.iinc 3 1, 3) := by decide +kernel
theorem dX1_probeComes_158 : decode cX1_probeComes 158 = .ok (.goto (-156), 3) := by decide +kernel
theorem dX1_probeComes_161 : decode cX1_probeComes 161 = .ok (.return_, 1) := by decide +kernel
theorem dX1_responseComes_0 : decode cX1_responseComes 0 = .ok (.aload_n 0, 1) := by decide +kernel
theorem dX1_responseComes_1 : decode cX1_responseComes 1 = .ok (.getfield 48, 3) := by decide +kernel
theorem dX1_responseComes_4 : decode cX1_responseComes 4 = .ok (.getfield 207, 3) := by decide +kernel
theorem dX1_responseComes_7 : decode cX1_responseComes 7 = .ok (.iload_n 1, 1) := by decide +kernel
theorem dX1_responseComes_8 : decode cX1_responseComes 8 = .ok (.iconst 4, 1) := by decide +kernel
theorem dX1_responseComes_9 : decode cX1_responseComes 9 = .ok (.invokevirtual 104, 3) := by decide +kernel
theorem dX1_responseComes_12 : decode cX1_responseComes 12 = .ok (.ifCond .ne 10, 3) := by decide +kernel
theorem dX1_responseComes_15 : decode cX1_responseComes 15 = .ok (.aload_n 0, 1) := by decide +kernel
theorem dX1_responseComes_16 : decode cX1_responseComes 16 = .ok (.iload_n 1, 1) := by decide +kernel
theorem dX1_responseComes_17 : decode cX1_responseComes 17 = .ok (.iload_n 2, 1) := by decide +kernel
theorem dX1_responseComes_18 : decode cX1_responseComes 18 = .ok (.invokevirtual 288, 3) := by decide +kernel
theorem dX1_responseComes_21 : decode cX1_responseComes 21 = .ok (.return_, 1) := by decide +kernel
theorem dX1_responseComes_22 : decode cX1_responseComes 22 = .ok (.iconst 0, 1) := by decide +kernel
theorem dX1_responseComes_23 : decode cX1_responseComes 23 = .ok (.istore_n 3, 1) := by decide +kernel
theorem dX1_responseComes_24 : decode cX1_responseComes 24 = .ok (.iload_n 3, 1) := by decide +kernel
theorem dX1_responseComes_25 : decode cX1_responseComes 25 = .ok (.aload_n 0, 1) := by decide +kernel
theorem dX1_responseComes_26 : decode cX1_responseComes 26 = .ok (.getfield 23, 3) := by decide +kernel
theorem dX1_responseComes_29 : decode cX1_responseComes 29 = .ok (.invokevirtual 111, 3) := by decide +kernel
theorem dX1_responseComes_32 : decode cX1_responseComes 32 = .ok (.if_icmp .ge 172, 3) := by decide +kernel
theorem dX1_responseComes_35 : decode cX1_responseComes 35 = .ok (.aload_n 0, 1) := by decide +kernel
theorem dX1_responseComes_36 : decode cX1_responseComes 36 = .ok (.getfield 23, 3) := by decide +kernel
theorem dX1_responseComes_39 : decode cX1_responseComes 39 = .ok (.iload_n 3, 1) := by decide +kernel
theorem dX1_responseComes_40 : decode cX1_responseComes 40 = .ok (.iconst 0, 1) := by decide +kernel
theorem dX1_responseComes_41 : decode cX1_responseComes 41 = .ok (.invokevirtual 104, 3) := by decide +kernel
theorem dX1_responseComes_44 : decode cX1_responseComes 44 = .ok (.iload_n 2, 1) := by decide +kernel
theorem dX1_responseComes_45 : decode cX1_responseComes 45 = .ok (.if_icmp .ne 153, 3) := by decide +kernel
theorem dX1_responseComes_48 : decode cX1_responseComes 48 = .ok (.aload_n 0, 1) := by decide +kernel
theorem dX1_responseComes_49 : decode cX1_responseComes 49 = .ok (.getfield 23, 3) := by decide +kernel
theorem dX1_responseComes_52 : decode cX1_responseComes 52 = .ok (.iload_n 3, 1) := by decide +kernel
theorem dX1_responseComes_53 : decode cX1_responseComes 53 = .ok (.aload_n 0, 1) := by decide +kernel
theorem dX1_responseComes_54 : decode cX1_responseComes 54 = .ok (.getfield 48, 3) := by decide +kernel
theorem dX1_responseComes_57 : decode cX1_responseComes 57 = .ok (.getfield 207, 3) := by decide +kernel
theorem dX1_responseComes_60 : decode cX1_responseComes 60 = .ok (.iload_n 1, 1) := by decide +kernel
theorem dX1_responseComes_61 : decode cX1_responseComes 61 = .ok (.invokevirtual 146, 3) := by decide +kernel
theorem dX1_responseComes_64 : decode cX1_responseComes 64 = .ok (.ifCond .eq 134, 3) := by decide +kernel
theorem dX1_responseComes_67 : decode cX1_responseComes 67 = .ok (.aload_n 0, 1) := by decide +kernel
theorem dX1_responseComes_68 : decode cX1_responseComes 68 = .ok (.getfield 23, 3) := by decide +kernel
theorem dX1_responseComes_71 : decode cX1_responseComes 71 = .ok (.iload_n 3, 1) := by decide +kernel
theorem dX1_responseComes_72 : decode cX1_responseComes 72 = .ok (.aload_n 0, 1) := by decide +kernel
theorem dX1_responseComes_73 : decode cX1_responseComes 73 = .ok (.getfield 48, 3) := by decide +kernel
theorem dX1_responseComes_76 : decode cX1_responseComes 76 = .ok (.getfield 207, 3) := by decide +kernel
theorem dX1_responseComes_79 : decode cX1_responseComes 79 = .ok (.iload_n 1, 1) := by decide +kernel
theorem dX1_responseComes_80 : decode cX1_responseComes 80 = .ok (.invokevirtual 150, 3) := by decide +kernel
theorem dX1_responseComes_83 : decode cX1_responseComes 83 = .ok (.istore 4, 2) := by decide +kernel
theorem dX1_responseComes_85 : decode cX1_responseComes 85 = .ok (.aload_n 0, 1) := by decide +kernel
theorem dX1_responseComes_86 : decode cX1_responseComes 86 = .ok (.getfield 23, 3) := by decide +kernel
theorem dX1_responseComes_89 : decode cX1_responseComes 89 = .ok (.iload_n 3, 1) := by decide +kernel
theorem dX1_responseComes_90 : decode cX1_responseComes 90 = .ok (.bipush 6, 2) := by decide +kernel
theorem dX1_responseComes_92 : decode cX1_responseComes 92 = .ok (.invokevirtual 104, 3) := by decide +kernel
theorem dX1_responseComes_95 : decode cX1_responseComes 95 = .ok (.ifCond .ne 22, 3) := by decide +kernel
theorem dX1_responseComes_98 : decode cX1_responseComes 98 = .ok (.aload_n 0, 1) := by decide +kernel
theorem dX1_responseComes_99 : decode cX1_responseComes 99 = .ok (.iload_n 3, 1) := by decide +kernel
theorem dX1_responseComes_100 : decode cX1_responseComes 100 = .ok (.invokevirtual 291, 3) := by decide +kernel
theorem dX1_responseComes_103 : decode cX1_responseComes 103 = .ok (.aload_n 0, 1) := by decide +kernel
theorem dX1_responseComes_104 : decode cX1_responseComes 104 = .ok (.iload_n 3, 1) := by decide +kernel
theorem dX1_responseComes_105 : decode cX1_responseComes 105 = .ok (.aload_n 0, 1) := by decide +kernel
theorem dX1_responseComes_106 : decode cX1_responseComes 106 = .ok (.getfield 74, 3) := by decide +kernel
theorem dX1_responseComes_109 : decode cX1_responseComes 109 = .ok (.iconst 1, 1) := by decide +kernel
theorem dX1_responseComes_110 : decode cX1_responseComes 110 = .ok (.iadd, 1) := by decide +kernel
theorem dX1_responseComes_111 : decode cX1_responseComes 111 = .ok (.invokevirtual 285, 3) := by decide +kernel
theorem dX1_responseComes_114 : decode cX1_responseComes 114 = .ok (.goto 84, 3) := by decide +kernel
theorem dX1_responseComes_198 : decode cX1_responseComes 198 = .ok (.iinc 3 1, 3) := by decide +kernel
theorem dX1_responseComes_201 : decode cX1_responseComes 201 = .ok (.goto (-177), 3) := by decide +kernel
theorem dX1_responseComes_204 : decode cX1_responseComes 204 = .ok (.aload_n 0, 1) := by decide +kernel
theorem dX1_responseComes_205 : decode cX1_responseComes 205 = .ok (.iload_n 1, 1) := by decide +kernel
theorem dX1_responseComes_206 : decode cX1_responseComes 206 = .ok (.iload_n 2, 1) := by decide +kernel
theorem dX1_responseComes_207 : decode cX1_responseComes 207 = .ok (.invokevirtual 273, 3) := by decide +kernel
theorem dX1_responseComes_210 : decode cX1_responseComes 210 = .ok (.return_, 1) := by decide +kernel
theorem dX1_queryComes_0 : decode cX1_queryComes 0 = .ok (.aload_n 0, 1) := by decide +kernel
theorem dX1_queryComes_1 : decode cX1_queryComes 1 = .ok (.getfield 48, 3) := by decide +kernel
theorem dX1_queryComes_4 : decode cX1_queryComes 4 = .ok (.getfield 207, 3) := by decide +kernel
theorem dX1_queryComes_7 : decode cX1_queryComes 7 = .ok (.iload_n 1, 1) := by decide +kernel
theorem dX1_queryComes_8 : decode cX1_queryComes 8 = .ok (.iconst 1, 1) := by decide +kernel
theorem dX1_queryComes_9 : decode cX1_queryComes 9 = .ok (.invokevirtual 104, 3) := by decide +kernel
theorem dX1_queryComes_12 : decode cX1_queryComes 12 = .ok (.istore_n 3, 1) := by decide +kernel
theorem dX1_queryComes_13 : decode cX1_queryComes 13 = .ok (.iconst 0, 1) := by decide +kernel
theorem dX1_queryComes_14 : decode cX1_queryComes 14 = .ok (.istore 4, 2) := by decide +kernel
theorem dX1_queryComes_16 : decode cX1_queryComes 16 = .ok (.iload 4, 2) := by decide +kernel
theorem dX1_queryComes_18 : decode cX1_queryComes 18 = .ok (.aload_n 0, 1) := by decide +kernel
theorem dX1_queryComes_19 : decode cX1_queryComes 19 = .ok (.getfield 23, 3) := by decide +kernel
theorem dX1_queryComes_22 : decode cX1_queryComes 22 = .ok (.invokevirtual 111, 3) := by decide +kernel
theorem dX1_queryComes_25 : decode cX1_queryComes 25 = .ok (.if_icmp .ge 95, 3) := by decide +kernel
theorem dX1_queryComes_28 : decode cX1_queryComes 28 = .ok (.aload_n 0, 1) := by decide +kernel
theorem dX1_queryComes_29 : decode cX1_queryComes 29 = .ok (.getfield 23, 3) := by decide +kernel
theorem dX1_queryComes_32 : decode cX1_queryComes 32 = .ok (.iload 4, 2) := by decide +kernel
theorem dX1_queryComes_34 : decode cX1_queryComes 34 = .ok (.iconst 0, 1) := by decide +kernel
theorem dX1_queryComes_35 : decode cX1_queryComes 35 = .ok (.invokevirtual 104, 3) := by decide +kernel
theorem dX1_queryComes_38 : decode cX1_queryComes 38 = .ok (.iload_n 2, 1) := by decide +kernel
theorem dX1_queryComes_39 : decode cX1_queryComes 39 = .ok (.if_icmp .ne 21, 3) := by decide +kernel
theorem dX1_queryComes_42 : decode cX1_queryComes 42 = .ok (.aload_n 0, 1) := by decide +kernel
theorem dX1_queryComes_43 : decode cX1_queryComes 43 = .ok (.getfield 23, 3) := by decide +kernel
theorem dX1_queryComes_46 : decode cX1_queryComes 46 = .ok (.iload 4, 2) := by decide +kernel
theorem dX1_queryComes_48 : decode cX1_queryComes 48 = .ok (.iconst 1, 1) := by decide +kernel
theorem dX1_queryComes_49 : decode cX1_queryComes 49 = .ok (.invokevirtual 104, 3) := by decide +kernel
theorem dX1_queryComes_52 : decode cX1_queryComes 52 = .ok (.iload_n 3, 1) := by decide +kernel
theorem dX1_queryComes_53 : decode cX1_queryComes 53 = .ok (.if_icmp .ne 7, 3) := by decide +kernel
theorem dX1_queryComes_56 : decode cX1_queryComes 56 = .ok (.iconst 1, 1) := by decide +kernel
theorem dX1_queryComes_57 : decode cX1_queryComes 57 = .ok (.goto 4, 3) := by decide +kernel
theorem dX1_queryComes_60 : decode cX1_queryComes 60 = .ok (.iconst 0, 1) := by decide +kernel
theorem dX1_queryComes_61 : decode cX1_queryComes 61 = .ok (.istore 5, 2) := by decide +kernel
theorem dX1_queryComes_63 : decode cX1_queryComes 63 = .ok (.iload 5, 2) := by decide +kernel
theorem dX1_queryComes_65 : decode cX1_queryComes 65 = .ok (.ifCond .eq 49, 3) := by decide +kernel
theorem dX1_queryComes_68 : decode cX1_queryComes 68 = .ok (.aload_n 0, 1) := by decide +kernel
theorem dX1_queryComes_69 : decode cX1_queryComes 69 = .ok (.iload 4, 2) := by decide +kernel
theorem dX1_queryComes_71 : decode cX1_queryComes 71 = .ok (.invokevirtual 154, 3) := by decide +kernel
theorem dX1_queryComes_74 : decode cX1_queryComes 74 = .ok (.ifCond .eq 40, 3) := by decide +kernel
theorem dX1_queryComes_77 : decode cX1_queryComes 77 = .ok (.aload_n 0, 1) := by decide +kernel
theorem dX1_queryComes_78 : decode cX1_queryComes 78 = .ok (.iload_n 1, 1) := by decide +kernel
theorem dX1_queryComes_79 : decode cX1_queryComes 79 = .ok (.iload 4, 2) := by decide +kernel
theorem dX1_queryComes_81 : decode cX1_queryComes 81 = .ok (.invokevirtual 294, 3) := by decide +kernel
theorem dX1_queryComes_84 : decode cX1_queryComes 84 = .ok (.ifCond .eq 23, 3) := by decide +kernel
theorem dX1_queryComes_87 : decode cX1_queryComes 87 = .ok (.aload_n 0, 1) := by decide +kernel
theorem dX1_queryComes_88 : decode cX1_queryComes 88 = .ok (.iconst 5, 1) := by decide +kernel
theorem dX1_queryComes_89 : decode cX1_queryComes 89 = .ok (.iload 4, 2) := by decide +kernel
theorem dX1_queryComes_91 : decode cX1_queryComes 91 = .ok (.aload_n 0, 1) := by decide +kernel
theorem dX1_queryComes_92 : decode cX1_queryComes 92 = .ok (.getfield 23, 3) := by decide +kernel
theorem dX1_queryComes_95 : decode cX1_queryComes 95 = .ok (.iload 4, 2) := by decide +kernel
theorem dX1_queryComes_97 : decode cX1_queryComes 97 = .ok (.iconst 2, 1) := by decide +kernel
theorem dX1_queryComes_98 : decode cX1_queryComes 98 = .ok (.invokevirtual 104, 3) := by decide +kernel
theorem dX1_queryComes_101 : decode cX1_queryComes 101 = .ok (.invokevirtual 282, 3) := by decide +kernel
theorem dX1_queryComes_104 : decode cX1_queryComes 104 = .ok (.goto 10, 3) := by decide +kernel
theorem dX1_queryComes_107 : decode cX1_queryComes 107 = .ok (.aload_n 0, 1) := by decide +kernel
theorem dX1_queryComes_108 : decode cX1_queryComes 108 = .ok (.iload 4, 2) := by decide +kernel
theorem dX1_queryComes_110 : decode cX1_queryComes 110 = .ok (.iconst 1, 1) := by decide +kernel
theorem dX1_queryComes_111 : decode cX1_queryComes 111 = .ok (.invokevirtual 276, 3) := by decide +kernel
theorem dX1_queryComes_114 : decode cX1_queryComes 114 = .ok (.iinc 4 1, 3) := by decide +kernel
theorem dX1_queryComes_117 : decode cX1_queryComes 117 = .ok (.goto (-101), 3) := by decide +kernel
theorem dX1_queryComes_120 : decode cX1_queryComes 120 = .ok (.return_, 1) := by decide +kernel
theorem dX1_isKnownAnswer_0 : decode cX1_isKnownAnswer 0 = .ok (.aload_n 0, 1) := by decide +kernel
theorem dX1_isKnownAnswer_1 : decode cX1_isKnownAnswer 1 = .ok (.getfield 48, 3) := by decide +kernel
theorem dX1_isKnownAnswer_4 : decode cX1_isKnownAnswer 4 = .ok (.getfield 207, 3) := by decide +kernel
theorem dX1_isKnownAnswer_7 : decode cX1_isKnownAnswer 7 = .ok (.iload_n 1, 1) := by decide +kernel
theorem dX1_isKnownAnswer_8 : decode cX1_isKnownAnswer 8 = .ok (.bipush 8, 2) := by decide +kernel
theorem dX1_isKnownAnswer_10 : decode cX1_isKnownAnswer 10 = .ok (.invokevirtual 104, 3) := by decide +kernel
theorem dX1_isKnownAnswer_13 : decode cX1_isKnownAnswer 13 = .ok (.istore_n 3, 1) := by decide +kernel
theorem dX1_isKnownAnswer_14 : decode cX1_isKnownAnswer 14 = .ok (.iload_n 3, 1) := by decide +kernel
theorem dX1_isKnownAnswer_15 : decode cX1_isKnownAnswer 15 = .ok (.aload_n 0, 1) := by decide +kernel
theorem dX1_isKnownAnswer_16 : decode cX1_isKnownAnswer 16 = .ok (.getfield 48, 3) := by decide +kernel
theorem dX1_isKnownAnswer_19 : decode cX1_isKnownAnswer 19 = .ok (.getfield 207, 3) := by decide +kernel
theorem dX1_isKnownAnswer_22 : decode cX1_isKnownAnswer 22 = .ok (.iload_n 1, 1) := by decide +kernel
theorem dX1_isKnownAnswer_23 : decode cX1_isKnownAnswer 23 = .ok (.bipush 7, 2) := by decide +kernel
theorem dX1_isKnownAnswer_25 : decode cX1_isKnownAnswer 25 = .ok (.invokevirtual 104, 3) := by decide +kernel
theorem dX1_isKnownAnswer_28 : decode cX1_isKnownAnswer 28 = .ok (.iadd, 1) := by decide +kernel
theorem dX1_isKnownAnswer_29 : decode cX1_isKnownAnswer 29 = .ok (.istore 4, 2) := by decide +kernel
theorem dX1_isKnownAnswer_31 : decode cX1_isKnownAnswer 31 = .ok (.iload_n 3, 1) := by decide +kernel
theorem dX1_isKnownAnswer_32 : decode cX1_isKnownAnswer 32 = .ok (.istore 5, 2) := by decide +kernel
theorem dX1_isKnownAnswer_34 : decode cX1_isKnownAnswer 34 = .ok (.iload 5, 2) := by decide +kernel
theorem dX1_isKnownAnswer_36 : decode cX1_isKnownAnswer 36 = .ok (.iload 4, 2) := by decide +kernel
theorem dX1_isKnownAnswer_38 : decode cX1_isKnownAnswer 38 = .ok (.if_icmp .ge 49, 3) := by decide +kernel
theorem dX1_isKnownAnswer_41 : decode cX1_isKnownAnswer 41 = .ok (.aload_n 0, 1) := by decide +kernel
theorem dX1_isKnownAnswer_42 : decode cX1_isKnownAnswer 42 = .ok (.getfield 29, 3) := by decide +kernel
theorem dX1_isKnownAnswer_45 : decode cX1_isKnownAnswer 45 = .ok (.iload 5, 2) := by decide +kernel
theorem dX1_isKnownAnswer_47 : decode cX1_isKnownAnswer 47 = .ok (.aload_n 0, 1) := by decide +kernel
theorem dX1_isKnownAnswer_48 : decode cX1_isKnownAnswer 48 = .ok (.getfield 23, 3) := by decide +kernel
theorem dX1_isKnownAnswer_51 : decode cX1_isKnownAnswer 51 = .ok (.iload_n 2, 1) := by decide +kernel
theorem dX1_isKnownAnswer_52 : decode cX1_isKnownAnswer 52 = .ok (.invokevirtual 146, 3) := by decide +kernel
theorem dX1_isKnownAnswer_55 : decode cX1_isKnownAnswer 55 = .ok (.istore 6, 2) := by decide +kernel
theorem dX1_isKnownAnswer_57 : decode cX1_isKnownAnswer 57 = .ok (.iload 6, 2) := by decide +kernel
theorem dX1_isKnownAnswer_59 : decode cX1_isKnownAnswer 59 = .ok (.ifCond .eq 22, 3) := by decide +kernel
theorem dX1_isKnownAnswer_62 : decode cX1_isKnownAnswer 62 = .ok (.aload_n 0, 1) := by decide +kernel
theorem dX1_isKnownAnswer_63 : decode cX1_isKnownAnswer 63 = .ok (.getfield 29, 3) := by decide +kernel
theorem dX1_isKnownAnswer_66 : decode cX1_isKnownAnswer 66 = .ok (.iload 5, 2) := by decide +kernel
theorem dX1_isKnownAnswer_68 : decode cX1_isKnownAnswer 68 = .ok (.aload_n 0, 1) := by decide +kernel
theorem dX1_isKnownAnswer_69 : decode cX1_isKnownAnswer 69 = .ok (.getfield 23, 3) := by decide +kernel
theorem dX1_isKnownAnswer_72 : decode cX1_isKnownAnswer 72 = .ok (.iload_n 2, 1) := by decide +kernel
theorem dX1_isKnownAnswer_73 : decode cX1_isKnownAnswer 73 = .ok (.invokevirtual 150, 3) := by decide +kernel
theorem dX1_isKnownAnswer_76 : decode cX1_isKnownAnswer 76 = .ok (.ifCond .ne 5, 3) := by decide +kernel
theorem dX1_isKnownAnswer_79 : decode cX1_isKnownAnswer 79 = .ok (.iconst 1, 1) := by decide +kernel
theorem dX1_isKnownAnswer_80 : decode cX1_isKnownAnswer 80 = .ok (.ireturn, 1) := by decide +kernel
theorem dX1_isKnownAnswer_87 : decode cX1_isKnownAnswer 87 = .ok (.iconst 0, 1) := by decide +kernel
theorem dX1_isKnownAnswer_88 : decode cX1_isKnownAnswer 88 = .ok (.ireturn, 1) := by decide +kernel
theorem dX1_keepRecord_0 : decode cX1_keepRecord 0 = .ok (.aload_n 0, 1) := by decide +kernel
theorem dX1_keepRecord_1 : decode cX1_keepRecord 1 = .ok (.iload_n 2, 1) := by decide +kernel
theorem dX1_keepRecord_2 : decode cX1_keepRecord 2 = .ok (.invokevirtual 70, 3) := by decide +kernel
theorem dX1_keepRecord_5 : decode cX1_keepRecord 5 = .ok (.astore_n 3, 1) := by decide +kernel
theorem dX1_keepRecord_6 : decode cX1_keepRecord 6 = .ok (.aload_n 3, 1) := by decide +kernel
theorem dX1_keepRecord_7 : decode cX1_keepRecord 7 = .ok (.aload_n 0, 1) := by decide +kernel
theorem dX1_keepRecord_8 : decode cX1_keepRecord 8 = .ok (.getfield 48, 3) := by decide +kernel
theorem dX1_keepRecord_11 : decode cX1_keepRecord 11 = .ok (.getfield 207, 3) := by decide +kernel
theorem dX1_keepRecord_14 : decode cX1_keepRecord 14 = .ok (.iload_n 1, 1) := by decide +kernel
theorem dX1_keepRecord_15 : decode cX1_keepRecord 15 = .ok (.invokevirtual 138, 3) := by decide +kernel
theorem dX1_keepRecord_18 : decode cX1_keepRecord 18 = .ok (.istore 4, 2) := by decide +kernel
theorem dX1_keepRecord_20 : decode cX1_keepRecord 20 = .ok (.iload 4, 2) := by decide +kernel
theorem dX1_keepRecord_22 : decode cX1_keepRecord 22 = .ok (.iconst (-1), 1) := by decide +kernel
theorem dX1_keepRecord_23 : decode cX1_keepRecord 23 = .ok (.if_icmp .ne 26, 3) := by decide +kernel
theorem dX1_keepRecord_26 : decode cX1_keepRecord 26 = .ok (.aload_n 3, 1) := by decide +kernel
theorem dX1_keepRecord_27 : decode cX1_keepRecord 27 = .ok (.invokevirtual 111, 3) := by decide +kernel
theorem dX1_keepRecord_30 : decode cX1_keepRecord 30 = .ok (.bipush 16, 2) := by decide +kernel
theorem dX1_keepRecord_32 : decode cX1_keepRecord 32 = .ok (.if_icmp .lt 11, 3) := by decide +kernel
theorem dX1_keepRecord_35 : decode cX1_keepRecord 35 = .ok (.aload_n 3, 1) := by decide +kernel
theorem dX1_keepRecord_36 : decode cX1_keepRecord 36 = .ok (.aload_n 3, 1) := by decide +kernel
theorem dX1_keepRecord_37 : decode cX1_keepRecord 37 = .ok (.invokestatic 297, 3) := by decide +kernel
theorem dX1_keepRecord_40 : decode cX1_keepRecord 40 = .ok (.invokevirtual 301, 3) := by decide +kernel
theorem dX1_keepRecord_43 : decode cX1_keepRecord 43 = .ok (.aload_n 3, 1) := by decide +kernel
theorem dX1_keepRecord_44 : decode cX1_keepRecord 44 = .ok (.invokevirtual 65, 3) := by decide +kernel
theorem dX1_keepRecord_47 : decode cX1_keepRecord 47 = .ok (.istore 4, 2) := by decide +kernel
theorem dX1_keepRecord_49 : decode cX1_keepRecord 49 = .ok (.aload_n 3, 1) := by decide +kernel
theorem dX1_keepRecord_50 : decode cX1_keepRecord 50 = .ok (.iload 4, 2) := by decide +kernel
theorem dX1_keepRecord_52 : decode cX1_keepRecord 52 = .ok (.aload_n 0, 1) := by decide +kernel
theorem dX1_keepRecord_53 : decode cX1_keepRecord 53 = .ok (.getfield 48, 3) := by decide +kernel
theorem dX1_keepRecord_56 : decode cX1_keepRecord 56 = .ok (.getfield 207, 3) := by decide +kernel
theorem dX1_keepRecord_59 : decode cX1_keepRecord 59 = .ok (.iload_n 1, 1) := by decide +kernel
theorem dX1_keepRecord_60 : decode cX1_keepRecord 60 = .ok (.invokevirtual 304, 3) := by decide +kernel
theorem dX1_keepRecord_63 : decode cX1_keepRecord 63 = .ok (.aload_n 3, 1) := by decide +kernel
theorem dX1_keepRecord_64 : decode cX1_keepRecord 64 = .ok (.iload 4, 2) := by decide +kernel
theorem dX1_keepRecord_66 : decode cX1_keepRecord 66 = .ok (.bipush 6, 2) := by decide +kernel
theorem dX1_keepRecord_68 : decode cX1_keepRecord 68 = .ok (.aload_n 0, 1) := by decide +kernel
theorem dX1_keepRecord_69 : decode cX1_keepRecord 69 = .ok (.getfield 74, 3) := by decide +kernel
theorem dX1_keepRecord_72 : decode cX1_keepRecord 72 = .ok (.invokevirtual 223, 3) := by decide +kernel
theorem dX1_keepRecord_75 : decode cX1_keepRecord 75 = .ok (.aload_n 3, 1) := by decide +kernel
theorem dX1_keepRecord_76 : decode cX1_keepRecord 76 = .ok (.iload 4, 2) := by decide +kernel
theorem dX1_keepRecord_78 : decode cX1_keepRecord 78 = .ok (.bipush 7, 2) := by decide +kernel
theorem dX1_keepRecord_80 : decode cX1_keepRecord 80 = .ok (.iconst 0, 1) := by decide +kernel
theorem dX1_keepRecord_81 : decode cX1_keepRecord 81 = .ok (.invokevirtual 223, 3) := by decide +kernel
theorem dX1_keepRecord_84 : decode cX1_keepRecord 84 = .ok (.return_, 1) := by decide +kernel
theorem dX1_recordsExpire_0 : decode cX1_recordsExpire 0 = .ok (.iconst 0, 1) := by decide +kernel
theorem dX1_recordsExpire_1 : decode cX1_recordsExpire 1 = .ok (.istore_n 1, 1) := by decide +kernel
theorem dX1_recordsExpire_2 : decode cX1_recordsExpire 2 = .ok (.iload_n 1, 1) := by decide +kernel
theorem dX1_recordsExpire_3 : decode cX1_recordsExpire 3 = .ok (.aload_n 0, 1) := by decide +kernel
theorem dX1_recordsExpire_4 : decode cX1_recordsExpire 4 = .ok (.getfield 14, 3) := by decide +kernel
theorem dX1_recordsExpire_7 : decode cX1_recordsExpire 7 = .ok (.invokevirtual 111, 3) := by decide +kernel
theorem dX1_recordsExpire_10 : decode cX1_recordsExpire 10 = .ok (.if_icmp .ge 69, 3) := by decide +kernel
theorem dX1_recordsExpire_13 : decode cX1_recordsExpire 13 = .ok (.aload_n 0, 1) := by decide +kernel
theorem dX1_recordsExpire_14 : decode cX1_recordsExpire 14 = .ok (.iload_n 1, 1) := by decide +kernel
theorem dX1_recordsExpire_15 : decode cX1_recordsExpire 15 = .ok (.invokevirtual 70, 3) := by decide +kernel
theorem dX1_recordsExpire_18 : decode cX1_recordsExpire 18 = .ok (.astore_n 2, 1) := by decide +kernel
theorem dX1_recordsExpire_19 : decode cX1_recordsExpire 19 = .ok (.iconst 0, 1) := by decide +kernel
theorem dX1_recordsExpire_20 : decode cX1_recordsExpire 20 = .ok (.istore_n 3, 1) := by decide +kernel
theorem dX1_recordsExpire_21 : decode cX1_recordsExpire 21 = .ok (.aload_n 2, 1) := by decide +kernel
theorem dX1_recordsExpire_22 : decode cX1_recordsExpire 22 = .ok (.invokevirtual 111, 3) := by decide +kernel
theorem dX1_recordsExpire_25 : decode cX1_recordsExpire 25 = .ok (.istore 4, 2) := by decide +kernel
theorem dX1_recordsExpire_27 : decode cX1_recordsExpire 27 = .ok (.iload 4, 2) := by decide +kernel
theorem dX1_recordsExpire_29 : decode cX1_recordsExpire 29 = .ok (.ifCond .le 44, 3) := by decide +kernel
theorem dX1_recordsExpire_32 : decode cX1_recordsExpire 32 = .ok (.aload_n 2, 1) := by decide +kernel
theorem dX1_recordsExpire_33 : decode cX1_recordsExpire 33 = .ok (.iload_n 3, 1) := by decide +kernel
theorem dX1_recordsExpire_34 : decode cX1_recordsExpire 34 = .ok (.invokevirtual 308, 3) := by decide +kernel
theorem dX1_recordsExpire_37 : decode cX1_recordsExpire 37 = .ok (.aload_n 0, 1) := by decide +kernel
theorem dX1_recordsExpire_38 : decode cX1_recordsExpire 38 = .ok (.getfield 74, 3) := by decide +kernel
theorem dX1_recordsExpire_41 : decode cX1_recordsExpire 41 = .ok (.if_icmp .gt 23, 3) := by decide +kernel
theorem dX1_recordsExpire_44 : decode cX1_recordsExpire 44 = .ok (.aload_n 0, 1) := by decide +kernel
theorem dX1_recordsExpire_45 : decode cX1_recordsExpire 45 = .ok (.iconst 4, 1) := by decide +kernel
theorem dX1_recordsExpire_46 : decode cX1_recordsExpire 46 = .ok (.iload_n 1, 1) := by decide +kernel
theorem dX1_recordsExpire_47 : decode cX1_recordsExpire 47 = .ok (.aload_n 2, 1) := by decide +kernel
theorem dX1_recordsExpire_48 : decode cX1_recordsExpire 48 = .ok (.iload_n 3, 1) := by decide +kernel
theorem dX1_recordsExpire_49 : decode cX1_recordsExpire 49 = .ok (.iconst 2, 1) := by decide +kernel
theorem dX1_recordsExpire_50 : decode cX1_recordsExpire 50 = .ok (.invokevirtual 104, 3) := by decide +kernel
theorem dX1_recordsExpire_53 : decode cX1_recordsExpire 53 = .ok (.invokevirtual 282, 3) := by decide +kernel
theorem dX1_recordsExpire_56 : decode cX1_recordsExpire 56 = .ok (.aload_n 2, 1) := by decide +kernel
theorem dX1_recordsExpire_57 : decode cX1_recordsExpire 57 = .ok (.iload_n 3, 1) := by decide +kernel
theorem dX1_recordsExpire_58 : decode cX1_recordsExpire 58 = .ok (.invokevirtual 301, 3) := by decide +kernel
theorem dX1_recordsExpire_61 : decode cX1_recordsExpire 61 = .ok (.goto 6, 3) := by decide +kernel
theorem dX1_recordsExpire_64 : decode cX1_recordsExpire 64 = .ok (.iinc 3 1, 3) := by decide +kernel
theorem dX1_recordsExpire_67 : decode cX1_recordsExpire 67 = .ok (.iinc 4 (-1), 3) := by decide +kernel
theorem dX1_recordsExpire_70 : decode cX1_recordsExpire 70 = .ok (.goto (-43), 3) := by decide +kernel
theorem dX1_recordsExpire_73 : decode cX1_recordsExpire 73 = .ok (.iinc 1 1, 3) := by decide +kernel
theorem dX1_recordsExpire_76 : decode cX1_recordsExpire 76 = .ok (.goto (-74), 3) := by decide +kernel
theorem dX1_recordsExpire_79 : decode cX1_recordsExpire 79 = .ok (.return_, 1) := by decide +kernel
theorem dX1_servicesAct_0 : decode cX1_servicesAct 0 = .ok (.iconst 0, 1) := by decide +kernel
theorem dX1_servicesAct_1 : decode cX1_servicesAct 1 = .ok (.istore_n 1, 1) := by decide +kernel
theorem dX1_servicesAct_2 : decode cX1_servicesAct 2 = .ok (.iload_n 1, 1) := by decide +kernel
theorem dX1_servicesAct_3 : decode cX1_servicesAct 3 = .ok (.aload_n 0, 1) := by decide +kernel
theorem dX1_servicesAct_4 : decode cX1_servicesAct 4 = .ok (.getfield 23, 3) := by decide +kernel
theorem dX1_servicesAct_7 : decode cX1_servicesAct 7 = .ok (.invokevirtual 111, 3) := by decide +kernel
theorem dX1_servicesAct_10 : decode cX1_servicesAct 10 = .ok (.if_icmp .ge 195, 3) := by decide +kernel
theorem dX1_servicesAct_13 : decode cX1_servicesAct 13 = .ok (.aload_n 0, 1) := by decide +kernel
theorem dX1_servicesAct_14 : decode cX1_servicesAct 14 = .ok (.getfield 23, 3) := by decide +kernel
theorem dX1_servicesAct_17 : decode cX1_servicesAct 17 = .ok (.iload_n 1, 1) := by decide +kernel
theorem dX1_servicesAct_18 : decode cX1_servicesAct 18 = .ok (.bipush 8, 2) := by decide +kernel
theorem dX1_servicesAct_20 : decode cX1_servicesAct 20 = .ok (.invokevirtual 104, 3) := by decide +kernel
theorem dX1_servicesAct_23 : decode cX1_servicesAct 23 = .ok (.istore_n 2, 1) := by decide +kernel
theorem dX1_servicesAct_24 : decode cX1_servicesAct 24 = .ok (.aload_n 0, 1) := by decide +kernel
theorem dX1_servicesAct_25 : decode cX1_servicesAct 25 = .ok (.getfield 23, 3) := by decide +kernel
theorem dX1_servicesAct_28 : decode cX1_servicesAct 28 = .ok (.iload_n 1, 1) := by decide +kernel
theorem dX1_servicesAct_29 : decode cX1_servicesAct 29 = .ok (.bipush 6, 2) := by decide +kernel
theorem dX1_servicesAct_31 : decode cX1_servicesAct 31 = .ok (.invokevirtual 104, 3) := by decide +kernel
theorem dX1_servicesAct_34 : decode cX1_servicesAct 34 = .ok (.istore_n 3, 1) := by decide +kernel
theorem dX1_servicesAct_35 : decode cX1_servicesAct 35 = .ok (.aload_n 0, 1) := by decide +kernel
theorem dX1_servicesAct_36 : decode cX1_servicesAct 36 = .ok (.aload_n 0, 1) := by decide +kernel
theorem dX1_servicesAct_37 : decode cX1_servicesAct 37 = .ok (.getfield 23, 3) := by decide +kernel
theorem dX1_servicesAct_40 : decode cX1_servicesAct 40 = .ok (.iload_n 1, 1) := by decide +kernel
theorem dX1_servicesAct_41 : decode cX1_servicesAct 41 = .ok (.iconst 0, 1) := by decide +kernel
theorem dX1_servicesAct_42 : decode cX1_servicesAct 42 = .ok (.invokevirtual 104, 3) := by decide +kernel
theorem dX1_servicesAct_45 : decode cX1_servicesAct 45 = .ok (.invokevirtual 114, 3) := by decide +kernel
theorem dX1_servicesAct_48 : decode cX1_servicesAct 48 = .ok (.ifCond .eq 20, 3) := by decide +kernel
theorem dX1_servicesAct_51 : decode cX1_servicesAct 51 = .ok (.iload_n 2, 1) := by decide +kernel
theorem dX1_servicesAct_52 : decode cX1_servicesAct 52 = .ok (.iconst (-1), 1) := by decide +kernel
theorem dX1_servicesAct_53 : decode cX1_servicesAct 53 = .ok (.if_icmp .eq 15, 3) := by decide +kernel
theorem dX1_servicesAct_56 : decode cX1_servicesAct 56 = .ok (.iload_n 2, 1) := by decide +kernel
theorem dX1_servicesAct_57 : decode cX1_servicesAct 57 = .ok (.aload_n 0, 1) := by decide +kernel
theorem dX1_servicesAct_58 : decode cX1_servicesAct 58 = .ok (.getfield 74, 3) := by decide +kernel
theorem dX1_servicesAct_61 : decode cX1_servicesAct 61 = .ok (.if_icmp .gt 7, 3) := by decide +kernel
theorem dX1_servicesAct_64 : decode cX1_servicesAct 64 = .ok (.iconst 1, 1) := by decide +kernel
theorem dX1_servicesAct_65 : decode cX1_servicesAct 65 = .ok (.goto 4, 3) := by decide +kernel
theorem dX1_servicesAct_68 : decode cX1_servicesAct 68 = .ok (.iconst 0, 1) := by decide +kernel
theorem dX1_servicesAct_69 : decode cX1_servicesAct 69 = .ok (.istore 4, 2) := by decide +kernel
theorem dX1_servicesAct_71 : decode cX1_servicesAct 71 = .ok (.iload 4, 2) := by decide +kernel
theorem dX1_servicesAct_73 : decode cX1_servicesAct 73 = .ok (.ifCond .eq 56, 3) := by decide +kernel
theorem dX1_servicesAct_76 : decode cX1_servicesAct 76 = .ok (.iload_n 3, 1) := by decide +kernel
theorem dX1_servicesAct_77 : decode cX1_servicesAct 77 = .ok (.ifCond .ne 52, 3) := by decide +kernel
theorem dX1_servicesAct_80 : decode cX1_servicesAct 80 = .ok (.aload_n 0, 1) := by decide +kernel
theorem dX1_servicesAct_81 : decode cX1_servicesAct 81 = .ok (.getfield 23, 3) := by decide +kernel
theorem dX1_servicesAct_84 : decode cX1_servicesAct 84 = .ok (.iload_n 1, 1) := by decide +kernel
theorem dX1_servicesAct_85 : decode cX1_servicesAct 85 = .ok (.bipush 7, 2) := by decide +kernel
theorem dX1_servicesAct_87 : decode cX1_servicesAct 87 = .ok (.invokevirtual 104, 3) := by decide +kernel
theorem dX1_servicesAct_90 : decode cX1_servicesAct 90 = .ok (.iconst 3, 1) := by decide +kernel
theorem dX1_servicesAct_91 : decode cX1_servicesAct 91 = .ok (.if_icmp .ge 38, 3) := by decide +kernel
theorem dX1_servicesAct_94 : decode cX1_servicesAct 94 = .ok (.aload_n 0, 1) := by decide +kernel
theorem dX1_servicesAct_95 : decode cX1_servicesAct 95 = .ok (.iload_n 1, 1) := by decide +kernel
theorem dX1_servicesAct_96 : decode cX1_servicesAct 96 = .ok (.iconst 0, 1) := by decide +kernel
theorem dX1_servicesAct_97 : decode cX1_servicesAct 97 = .ok (.invokevirtual 276, 3) := by decide +kernel
theorem dX1_servicesAct_100 : decode cX1_servicesAct 100 = .ok (.aload_n 0, 1) := by decide +kernel
theorem dX1_servicesAct_101 : decode cX1_servicesAct 101 = .ok (.getfield 23, 3) := by decide +kernel
theorem dX1_servicesAct_104 : decode cX1_servicesAct 104 = .ok (.iload_n 1, 1) := by decide +kernel
theorem dX1_servicesAct_105 : decode cX1_servicesAct 105 = .ok (.bipush 7, 2) := by decide +kernel
theorem dX1_servicesAct_107 : decode cX1_servicesAct 107 = .ok (.invokevirtual 279, 3) := by decide +kernel
theorem dX1_servicesAct_110 : decode cX1_servicesAct 110 = .ok (.aload_n 0, 1) := by decide +kernel
theorem dX1_servicesAct_111 : decode cX1_servicesAct 111 = .ok (.getfield 23, 3) := by decide +kernel
theorem dX1_servicesAct_114 : decode cX1_servicesAct 114 = .ok (.iload_n 1, 1) := by decide +kernel
theorem dX1_servicesAct_115 : decode cX1_servicesAct 115 = .ok (.bipush 8, 2) := by decide +kernel
theorem dX1_servicesAct_117 : decode cX1_servicesAct 117 = .ok (.aload_n 0, 1) := by decide +kernel
theorem dX1_servicesAct_118 : decode cX1_servicesAct 118 = .ok (.getfield 74, 3) := by decide +kernel
theorem dX1_servicesAct_121 : decode cX1_servicesAct 121 = .ok (.iconst 2, 1) := by decide +kernel
theorem dX1_servicesAct_122 : decode cX1_servicesAct 122 = .ok (.iadd, 1) := by decide +kernel
theorem dX1_servicesAct_123 : decode cX1_servicesAct 123 = .ok (.invokevirtual 223, 3) := by decide +kernel
theorem dX1_servicesAct_126 : decode cX1_servicesAct 126 = .ok (.goto 73, 3) := by decide +kernel
theorem dX1_servicesAct_129 : decode cX1_servicesAct 129 = .ok (.iload 4, 2) := by decide +kernel
theorem dX1_servicesAct_131 : decode cX1_servicesAct 131 = .ok (.ifCond .eq 15, 3) := by decide +kernel
theorem dX1_servicesAct_134 : decode cX1_servicesAct 134 = .ok (.iload_n 3, 1) := by decide +kernel
theorem dX1_servicesAct_135 : decode cX1_servicesAct 135 = .ok (.ifCond .ne 11, 3) := by decide +kernel
theorem dX1_servicesAct_138 : decode cX1_servicesAct 138 = .ok (.aload_n 0, 1) := by decide +kernel
theorem dX1_servicesAct_139 : decode cX1_servicesAct 139 = .ok (.iload_n 1, 1) := by decide +kernel
theorem dX1_servicesAct_140 : decode cX1_servicesAct 140 = .ok (.invokevirtual 311, 3) := by decide +kernel
theorem dX1_servicesAct_143 : decode cX1_servicesAct 143 = .ok (.goto 56, 3) := by decide +kernel
theorem dX1_servicesAct_146 : decode cX1_servicesAct 146 = .ok (.iload 4, 2) := by decide +kernel
theorem dX1_servicesAct_148 : decode cX1_servicesAct 148 = .ok (.ifCond .eq 51, 3) := by decide +kernel
theorem dX1_servicesAct_151 : decode cX1_servicesAct 151 = .ok (.iload_n 3, 1) := by decide +kernel
theorem dX1_servicesAct_152 : decode cX1_servicesAct 152 = .ok (.iconst 1, 1) := by decide +kernel
theorem dX1_servicesAct_153 : decode cX1_servicesAct 153 = .ok (.if_icmp .ne 46, 3) := by decide +kernel
theorem dX1_servicesAct_156 : decode cX1_servicesAct 156 = .ok (.aload_n 0, 1) := by decide +kernel
theorem dX1_servicesAct_157 : decode cX1_servicesAct 157 = .ok (.iload_n 1, 1) := by decide +kernel
theorem dX1_servicesAct_158 : decode cX1_servicesAct 158 = .ok (.iconst 1, 1) := by decide +kernel
theorem dX1_servicesAct_159 : decode cX1_servicesAct 159 = .ok (.invokevirtual 276, 3) := by decide +kernel
theorem dX1_servicesAct_162 : decode cX1_servicesAct 162 = .ok (.aload_n 0, 1) := by decide +kernel
theorem dX1_servicesAct_163 : decode cX1_servicesAct 163 = .ok (.getfield 23, 3) := by decide +kernel
theorem dX1_servicesAct_166 : decode cX1_servicesAct 166 = .ok (.iload_n 1, 1) := by decide +kernel
theorem dX1_servicesAct_167 : decode cX1_servicesAct 167 = .ok (.bipush 6, 2) := by decide +kernel
theorem dX1_servicesAct_169 : decode cX1_servicesAct 169 = .ok (.iconst 2, 1) := by decide +kernel
theorem dX1_servicesAct_170 : decode cX1_servicesAct 170 = .ok (.invokevirtual 223, 3) := by decide +kernel
theorem dX1_servicesAct_173 : decode cX1_servicesAct 173 = .ok (.aload_n 0, 1) := by decide +kernel
theorem dX1_servicesAct_174 : decode cX1_servicesAct 174 = .ok (.getfield 23, 3) := by decide +kernel
theorem dX1_servicesAct_177 : decode cX1_servicesAct 177 = .ok (.iload_n 1, 1) := by decide +kernel
theorem dX1_servicesAct_178 : decode cX1_servicesAct 178 = .ok (.bipush 8, 2) := by decide +kernel
theorem dX1_servicesAct_180 : decode cX1_servicesAct 180 = .ok (.iconst (-1), 1) := by decide +kernel
theorem dX1_servicesAct_181 : decode cX1_servicesAct 181 = .ok (.invokevirtual 223, 3) := by decide +kernel
theorem dX1_servicesAct_184 : decode cX1_servicesAct 184 = .ok (.aload_n 0, 1) := by decide +kernel
theorem dX1_servicesAct_185 : decode cX1_servicesAct 185 = .ok (.iconst 3, 1) := by decide +kernel
theorem dX1_servicesAct_186 : decode cX1_servicesAct 186 = .ok (.iload_n 1, 1) := by decide +kernel
theorem dX1_servicesAct_187 : decode cX1_servicesAct 187 = .ok (.aload_n 0, 1) := by decide +kernel
theorem dX1_servicesAct_188 : decode cX1_servicesAct 188 = .ok (.getfield 23, 3) := by decide +kernel
theorem dX1_servicesAct_191 : decode cX1_servicesAct 191 = .ok (.iload_n 1, 1) := by decide +kernel
theorem dX1_servicesAct_192 : decode cX1_servicesAct 192 = .ok (.iconst 2, 1) := by decide +kernel
theorem dX1_servicesAct_193 : decode cX1_servicesAct 193 = .ok (.invokevirtual 104, 3) := by decide +kernel
theorem dX1_servicesAct_196 : decode cX1_servicesAct 196 = .ok (.invokevirtual 282, 3) := by decide +kernel
theorem dX1_servicesAct_199 : decode cX1_servicesAct 199 = .ok (.iinc 1 1, 3) := by decide +kernel
theorem dX1_servicesAct_202 : decode cX1_servicesAct 202 = .ok (.goto (-200), 3) := by decide +kernel
theorem dX1_servicesAct_205 : decode cX1_servicesAct 205 = .ok (.return_, 1) := by decide +kernel
theorem dX1_announceService_0 : decode cX1_announceService 0 = .ok (.aload_n 0, 1) := by decide +kernel
theorem dX1_announceService_1 : decode cX1_announceService 1 = .ok (.iload_n 1, 1) := by decide +kernel
theorem dX1_announceService_2 : decode cX1_announceService 2 = .ok (.iconst 1, 1) := by decide +kernel
theorem dX1_announceService_3 : decode cX1_announceService 3 = .ok (.invokevirtual 276, 3) := by decide +kernel
theorem dX1_announceService_6 : decode cX1_announceService 6 = .ok (.aload_n 0, 1) := by decide +kernel
theorem dX1_announceService_7 : decode cX1_announceService 7 = .ok (.getfield 23, 3) := by decide +kernel
theorem dX1_announceService_10 : decode cX1_announceService 10 = .ok (.iload_n 1, 1) := by decide +kernel
theorem dX1_announceService_11 : decode cX1_announceService 11 = .ok (.bipush 6, 2) := by decide +kernel
theorem dX1_announceService_13 : decode cX1_announceService 13 = .ok (.iconst 1, 1) := by decide +kernel
theorem dX1_announceService_14 : decode cX1_announceService 14 = .ok (.invokevirtual 223, 3) := by decide +kernel
theorem dX1_announceService_17 : decode cX1_announceService 17 = .ok (.aload_n 0, 1) := by decide +kernel
theorem dX1_announceService_18 : decode cX1_announceService 18 = .ok (.getfield 23, 3) := by decide +kernel
theorem dX1_announceService_21 : decode cX1_announceService 21 = .ok (.iload_n 1, 1) := by decide +kernel
theorem dX1_announceService_22 : decode cX1_announceService 22 = .ok (.bipush 8, 2) := by decide +kernel
theorem dX1_announceService_24 : decode cX1_announceService 24 = .ok (.aload_n 0, 1) := by decide +kernel
theorem dX1_announceService_25 : decode cX1_announceService 25 = .ok (.getfield 74, 3) := by decide +kernel
theorem dX1_announceService_28 : decode cX1_announceService 28 = .ok (.iconst 4, 1) := by decide +kernel
theorem dX1_announceService_29 : decode cX1_announceService 29 = .ok (.iadd, 1) := by decide +kernel
theorem dX1_announceService_30 : decode cX1_announceService 30 = .ok (.invokevirtual 223, 3) := by decide +kernel
theorem dX1_announceService_33 : decode cX1_announceService 33 = .ok (.return_, 1) := by decide +kernel
theorem dX1_browsersAct_0 : decode cX1_browsersAct 0 = .ok (.iconst 0, 1) := by decide +kernel
theorem dX1_browsersAct_1 : decode cX1_browsersAct 1 = .ok (.istore_n 1, 1) := by decide +kernel
theorem dX1_browsersAct_2 : decode cX1_browsersAct 2 = .ok (.iload_n 1, 1) := by decide +kernel
theorem dX1_browsersAct_3 : decode cX1_browsersAct 3 = .ok (.aload_n 0, 1) := by decide +kernel
theorem dX1_browsersAct_4 : decode cX1_browsersAct 4 = .ok (.getfield 14, 3) := by decide +kernel
theorem dX1_browsersAct_7 : decode cX1_browsersAct 7 = .ok (.invokevirtual 111, 3) := by decide +kernel
theorem dX1_browsersAct_10 : decode cX1_browsersAct 10 = .ok (.if_icmp .ge 51, 3) := by decide +kernel
theorem dX1_browsersAct_13 : decode cX1_browsersAct 13 = .ok (.iconst 0, 1) := by decide +kernel
theorem dX1_browsersAct_14 : decode cX1_browsersAct 14 = .ok (.istore_n 2, 1) := by decide +kernel
theorem dX1_browsersAct_15 : decode cX1_browsersAct 15 = .ok (.iload_n 2, 1) := by decide +kernel
theorem dX1_browsersAct_16 : decode cX1_browsersAct 16 = .ok (.aload_n 0, 1) := by decide +kernel
theorem dX1_browsersAct_17 : decode cX1_browsersAct 17 = .ok (.getfield 20, 3) := by decide +kernel
theorem dX1_browsersAct_20 : decode cX1_browsersAct 20 = .ok (.invokevirtual 111, 3) := by decide +kernel
theorem dX1_browsersAct_23 : decode cX1_browsersAct 23 = .ok (.if_icmp .ge 32, 3) := by decide +kernel
theorem dX1_browsersAct_26 : decode cX1_browsersAct 26 = .ok (.aload_n 0, 1) := by decide +kernel
theorem dX1_browsersAct_27 : decode cX1_browsersAct 27 = .ok (.iload_n 1, 1) := by decide +kernel
theorem dX1_browsersAct_28 : decode cX1_browsersAct 28 = .ok (.invokevirtual 114, 3) := by decide +kernel
theorem dX1_browsersAct_31 : decode cX1_browsersAct 31 = .ok (.ifCond .eq 18, 3) := by decide +kernel
theorem dX1_browsersAct_34 : decode cX1_browsersAct 34 = .ok (.aload_n 0, 1) := by decide +kernel
theorem dX1_browsersAct_35 : decode cX1_browsersAct 35 = .ok (.iload_n 1, 1) := by decide +kernel
theorem dX1_browsersAct_36 : decode cX1_browsersAct 36 = .ok (.iload_n 2, 1) := by decide +kernel
theorem dX1_browsersAct_37 : decode cX1_browsersAct 37 = .ok (.invokevirtual 118, 3) := by decide +kernel
theorem dX1_browsersAct_40 : decode cX1_browsersAct 40 = .ok (.ifCond .eq 9, 3) := by decide +kernel
theorem dX1_browsersAct_43 : decode cX1_browsersAct 43 = .ok (.aload_n 0, 1) := by decide +kernel
theorem dX1_browsersAct_44 : decode cX1_browsersAct 44 = .ok (.iload_n 1, 1) := by decide +kernel
theorem dX1_browsersAct_45 : decode cX1_browsersAct 45 = .ok (.iload_n 2, 1) := by decide +kernel
theorem dX1_browsersAct_46 : decode cX1_browsersAct 46 = .ok (.invokevirtual 314, 3) := by decide +kernel
theorem dX1_browsersAct_49 : decode cX1_browsersAct 49 = .ok (.iinc 2 1, 3) := by decide +kernel
theorem dX1_browsersAct_52 : decode cX1_browsersAct 52 = .ok (.goto (-37), 3) := by decide +kernel
theorem dX1_browsersAct_55 : decode cX1_browsersAct 55 = .ok (.iinc 1 1, 3) := by decide +kernel
theorem dX1_browsersAct_58 : decode cX1_browsersAct 58 = .ok (.goto (-56), 3) := by decide +kernel
theorem dX1_browsersAct_61 : decode cX1_browsersAct 61 = .ok (.return_, 1) := by decide +kernel
theorem dX1_browserActs_0 : decode cX1_browserActs 0 = .ok (.iload_n 1, 1) := by decide +kernel
theorem dX1_browserActs_1 : decode cX1_browserActs 1 = .ok (.iload_n 2, 1) := by decide +kernel
theorem dX1_browserActs_2 : decode cX1_browserActs 2 = .ok (.invokestatic 108, 3) := by decide +kernel
theorem dX1_browserActs_5 : decode cX1_browserActs 5 = .ok (.istore_n 3, 1) := by decide +kernel
theorem dX1_browserActs_6 : decode cX1_browserActs 6 = .ok (.aload_n 0, 1) := by decide +kernel
theorem dX1_browserActs_7 : decode cX1_browserActs 7 = .ok (.getfield 26, 3) := by decide +kernel
theorem dX1_browserActs_10 : decode cX1_browserActs 10 = .ok (.iload_n 3, 1) := by decide +kernel
theorem dX1_browserActs_11 : decode cX1_browserActs 11 = .ok (.iconst 0, 1) := by decide +kernel
theorem dX1_browserActs_12 : decode cX1_browserActs 12 = .ok (.invokevirtual 104, 3) := by decide +kernel
theorem dX1_browserActs_15 : decode cX1_browserActs 15 = .ok (.aload_n 0, 1) := by decide +kernel
theorem dX1_browserActs_16 : decode cX1_browserActs 16 = .ok (.getfield 74, 3) := by decide +kernel
theorem dX1_browserActs_19 : decode cX1_browserActs 19 = .ok (.if_icmp .gt 7, 3) := by decide +kernel
theorem dX1_browserActs_22 : decode cX1_browserActs 22 = .ok (.iconst 1, 1) := by decide +kernel
theorem dX1_browserActs_23 : decode cX1_browserActs 23 = .ok (.goto 4, 3) := by decide +kernel
theorem dX1_browserActs_26 : decode cX1_browserActs 26 = .ok (.iconst 0, 1) := by decide +kernel
theorem dX1_browserActs_27 : decode cX1_browserActs 27 = .ok (.istore 4, 2) := by decide +kernel
theorem dX1_browserActs_29 : decode cX1_browserActs 29 = .ok (.aload_n 0, 1) := by decide +kernel
theorem dX1_browserActs_30 : decode cX1_browserActs 30 = .ok (.iload_n 1, 1) := by decide +kernel
theorem dX1_browserActs_31 : decode cX1_browserActs 31 = .ok (.iload_n 2, 1) := by decide +kernel
theorem dX1_browserActs_32 : decode cX1_browserActs 32 = .ok (.invokevirtual 317, 3) := by decide +kernel
theorem dX1_browserActs_35 : decode cX1_browserActs 35 = .ok (.ifCond .le 12, 3) := by decide +kernel
theorem dX1_browserActs_38 : decode cX1_browserActs 38 = .ok (.iload 4, 2) := by decide +kernel
theorem dX1_browserActs_40 : decode cX1_browserActs 40 = .ok (.ifCond .ne 7, 3) := by decide +kernel
theorem dX1_browserActs_43 : decode cX1_browserActs 43 = .ok (.iconst 1, 1) := by decide +kernel
theorem dX1_browserActs_44 : decode cX1_browserActs 44 = .ok (.goto 4, 3) := by decide +kernel
theorem dX1_browserActs_47 : decode cX1_browserActs 47 = .ok (.iconst 0, 1) := by decide +kernel
theorem dX1_browserActs_48 : decode cX1_browserActs 48 = .ok (.istore 5, 2) := by decide +kernel
theorem dX1_browserActs_50 : decode cX1_browserActs 50 = .ok (.iload 4, 2) := by decide +kernel
theorem dX1_browserActs_52 : decode cX1_browserActs 52 = .ok (.ifCond .ne 8, 3) := by decide +kernel
theorem dX1_browserActs_55 : decode cX1_browserActs 55 = .ok (.iload 5, 2) := by decide +kernel
theorem dX1_browserActs_57 : decode cX1_browserActs 57 = .ok (.ifCond .eq 18, 3) := by decide +kernel
theorem dX1_browserActs_60 : decode cX1_browserActs 60 = .ok (.aload_n 0, 1) := by decide +kernel
theorem dX1_browserActs_61 : decode cX1_browserActs 61 = .ok (.iload_n 1, 1) := by decide +kernel
theorem dX1_browserActs_62 : decode cX1_browserActs 62 = .ok (.iload_n 2, 1) := by decide +kernel
theorem dX1_browserActs_63 : decode cX1_browserActs 63 = .ok (.invokevirtual 320, 3) := by decide +kernel
theorem dX1_browserActs_66 : decode cX1_browserActs 66 = .ok (.aload_n 0, 1) := by decide +kernel
theorem dX1_browserActs_67 : decode cX1_browserActs 67 = .ok (.getfield 26, 3) := by decide +kernel
theorem dX1_browserActs_70 : decode cX1_browserActs 70 = .ok (.iload_n 3, 1) := by decide +kernel
theorem dX1_browserActs_71 : decode cX1_browserActs 71 = .ok (.iconst 2, 1) := by decide +kernel
theorem dX1_browserActs_72 : decode cX1_browserActs 72 = .ok (.invokevirtual 279, 3) := by decide +kernel
theorem dX1_browserActs_75 : decode cX1_browserActs 75 = .ok (.iload 4, 2) := by decide +kernel
theorem dX1_browserActs_77 : decode cX1_browserActs 77 = .ok (.ifCond .eq 48, 3) := by decide +kernel
theorem dX1_browserActs_80 : decode cX1_browserActs 80 = .ok (.aload_n 0, 1) := by decide +kernel
theorem dX1_browserActs_81 : decode cX1_browserActs 81 = .ok (.getfield 26, 3) := by decide +kernel
theorem dX1_browserActs_84 : decode cX1_browserActs 84 = .ok (.iload_n 3, 1) := by decide +kernel
theorem dX1_browserActs_85 : decode cX1_browserActs 85 = .ok (.iconst 1, 1) := by decide +kernel
theorem dX1_browserActs_86 : decode cX1_browserActs 86 = .ok (.invokevirtual 104, 3) := by decide +kernel
theorem dX1_browserActs_89 : decode cX1_browserActs 89 = .ok (.istore 6, 2) := by decide +kernel
theorem dX1_browserActs_91 : decode cX1_browserActs 91 = .ok (.aload_n 0, 1) := by decide +kernel
theorem dX1_browserActs_92 : decode cX1_browserActs 92 = .ok (.getfield 26, 3) := by decide +kernel
theorem dX1_browserActs_95 : decode cX1_browserActs 95 = .ok (.iload_n 3, 1) := by decide +kernel
theorem dX1_browserActs_96 : decode cX1_browserActs 96 = .ok (.iconst 0, 1) := by decide +kernel
theorem dX1_browserActs_97 : decode cX1_browserActs 97 = .ok (.aload_n 0, 1) := by decide +kernel
theorem dX1_browserActs_98 : decode cX1_browserActs 98 = .ok (.getfield 74, 3) := by decide +kernel
theorem dX1_browserActs_101 : decode cX1_browserActs 101 = .ok (.iload 6, 2) := by decide +kernel
theorem dX1_browserActs_103 : decode cX1_browserActs 103 = .ok (.iadd, 1) := by decide +kernel
theorem dX1_browserActs_104 : decode cX1_browserActs 104 = .ok (.invokevirtual 223, 3) := by decide +kernel
theorem dX1_browserActs_107 : decode cX1_browserActs 107 = .ok (.aload_n 0, 1) := by decide +kernel
theorem dX1_browserActs_108 : decode cX1_browserActs 108 = .ok (.getfield 26, 3) := by decide +kernel
theorem dX1_browserActs_111 : decode cX1_browserActs 111 = .ok (.iload_n 3, 1) := by decide +kernel
theorem dX1_browserActs_112 : decode cX1_browserActs 112 = .ok (.iconst 1, 1) := by decide +kernel
theorem dX1_browserActs_113 : decode cX1_browserActs 113 = .ok (.bipush 64, 2) := by decide +kernel
theorem dX1_browserActs_115 : decode cX1_browserActs 115 = .ok (.iload 6, 2) := by decide +kernel
theorem dX1_browserActs_117 : decode cX1_browserActs 117 = .ok (.iconst 2, 1) := by decide +kernel
theorem dX1_browserActs_118 : decode cX1_browserActs 118 = .ok (.imul, 1) := by decide +kernel
theorem dX1_browserActs_119 : decode cX1_browserActs 119 = .ok (.invokestatic 126, 3) := by decide +kernel
theorem dX1_browserActs_122 : decode cX1_browserActs 122 = .ok (.invokevirtual 223, 3) := by decide +kernel
theorem dX1_browserActs_125 : decode cX1_browserActs 125 = .ok (.iload 5, 2) := by decide +kernel
theorem dX1_browserActs_127 : decode cX1_browserActs 127 = .ok (.ifCond .eq 12, 3) := by decide +kernel
theorem dX1_browserActs_130 : decode cX1_browserActs 130 = .ok (.aload_n 0, 1) := by decide +kernel
theorem dX1_browserActs_131 : decode cX1_browserActs 131 = .ok (.getfield 26, 3) := by decide +kernel
theorem dX1_browserActs_134 : decode cX1_browserActs 134 = .ok (.iload_n 3, 1) := by decide +kernel
theorem dX1_browserActs_135 : decode cX1_browserActs 135 = .ok (.iconst 3, 1) := by decide +kernel
theorem dX1_browserActs_136 : decode cX1_browserActs 136 = .ok (.invokevirtual 279, 3) := by decide +kernel
theorem dX1_browserActs_139 : decode cX1_browserActs 139 = .ok (.return_, 1) := by decide +kernel
theorem dX1_ageRecords_0 : decode cX1_ageRecords 0 = .ok (.aload_n 0, 1) := by decide +kernel
theorem dX1_ageRecords_1 : decode cX1_ageRecords 1 = .ok (.iload_n 1, 1) := by decide +kernel
theorem dX1_ageRecords_2 : decode cX1_ageRecords 2 = .ok (.invokevirtual 70, 3) := by decide +kernel
theorem dX1_ageRecords_5 : decode cX1_ageRecords 5 = .ok (.astore_n 3, 1) := by decide +kernel
theorem dX1_ageRecords_6 : decode cX1_ageRecords 6 = .ok (.iconst 0, 1) := by decide +kernel
theorem dX1_ageRecords_7 : decode cX1_ageRecords 7 = .ok (.istore 4, 2) := by decide +kernel
theorem dX1_ageRecords_9 : decode cX1_ageRecords 9 = .ok (.iconst 0, 1) := by decide +kernel
theorem dX1_ageRecords_10 : decode cX1_ageRecords 10 = .ok (.istore 5, 2) := by decide +kernel
theorem dX1_ageRecords_12 : decode cX1_ageRecords 12 = .ok (.iload 5, 2) := by decide +kernel
theorem dX1_ageRecords_14 : decode cX1_ageRecords 14 = .ok (.aload_n 3, 1) := by decide +kernel
theorem dX1_ageRecords_15 : decode cX1_ageRecords 15 = .ok (.invokevirtual 111, 3) := by decide +kernel
theorem dX1_ageRecords_18 : decode cX1_ageRecords 18 = .ok (.if_icmp .ge 85, 3) := by decide +kernel
theorem dX1_ageRecords_21 : decode cX1_ageRecords 21 = .ok (.aload_n 3, 1) := by decide +kernel
theorem dX1_ageRecords_22 : decode cX1_ageRecords 22 = .ok (.iload 5, 2) := by decide +kernel
theorem dX1_ageRecords_24 : decode cX1_ageRecords 24 = .ok (.bipush 7, 2) := by decide +kernel
theorem dX1_ageRecords_26 : decode cX1_ageRecords 26 = .ok (.invokevirtual 104, 3) := by decide +kernel
theorem dX1_ageRecords_29 : decode cX1_ageRecords 29 = .ok (.istore 6, 2) := by decide +kernel
theorem dX1_ageRecords_31 : decode cX1_ageRecords 31 = .ok (.aload_n 3, 1) := by decide +kernel
theorem dX1_ageRecords_32 : decode cX1_ageRecords 32 = .ok (.iload 5, 2) := by decide +kernel
theorem dX1_ageRecords_34 : decode cX1_ageRecords 34 = .ok (.bipush 6, 2) := by decide +kernel
theorem dX1_ageRecords_36 : decode cX1_ageRecords 36 = .ok (.invokevirtual 104, 3) := by decide +kernel
theorem dX1_ageRecords_39 : decode cX1_ageRecords 39 = .ok (.aload_n 3, 1) := by decide +kernel
theorem dX1_ageRecords_40 : decode cX1_ageRecords 40 = .ok (.iload 5, 2) := by decide +kernel
theorem dX1_ageRecords_42 : decode cX1_ageRecords 42 = .ok (.iconst 4, 1) := by decide +kernel
theorem dX1_ageRecords_43 : decode cX1_ageRecords 43 = .ok (.invokevirtual 104, 3) := by decide +kernel
theorem dX1_ageRecords_46 : decode cX1_ageRecords 46 = .ok (.bipush 80, 2) := by decide +kernel
theorem dX1_ageRecords_48 : decode cX1_ageRecords 48 = .ok (.iconst 5, 1) := by decide +kernel
theorem dX1_ageRecords_49 : decode cX1_ageRecords 49 = .ok (.iload 6, 2) := by decide +kernel
theorem dX1_ageRecords_51 : decode cX1_ageRecords 51 = .ok (.imul, 1) := by decide +kernel
theorem dX1_ageRecords_52 : decode cX1_ageRecords 52 = .ok (.iadd, 1) := by decide +kernel
theorem dX1_ageRecords_53 : decode cX1_ageRecords 53 = .ok (.imul, 1) := by decide +kernel
theorem dX1_ageRecords_54 : decode cX1_ageRecords 54 = .ok (.bipush 100, 2) := by decide +kernel
theorem dX1_ageRecords_56 : decode cX1_ageRecords 56 = .ok (.idiv, 1) := by decide +kernel
theorem dX1_ageRecords_57 : decode cX1_ageRecords 57 = .ok (.iadd, 1) := by decide +kernel
theorem dX1_ageRecords_58 : decode cX1_ageRecords 58 = .ok (.istore 7, 2) := by decide +kernel
theorem dX1_ageRecords_60 : decode cX1_ageRecords 60 = .ok (.aload_n 3, 1) := by decide +kernel
theorem dX1_ageRecords_61 : decode cX1_ageRecords 61 = .ok (.iload 5, 2) := by decide +kernel
theorem dX1_ageRecords_63 : decode cX1_ageRecords 63 = .ok (.iconst 1, 1) := by decide +kernel
theorem dX1_ageRecords_64 : decode cX1_ageRecords 64 = .ok (.invokevirtual 104, 3) := by decide +kernel
theorem dX1_ageRecords_67 : decode cX1_ageRecords 67 = .ok (.iload_n 2, 1) := by decide +kernel
theorem dX1_ageRecords_68 : decode cX1_ageRecords 68 = .ok (.if_icmp .ne 29, 3) := by decide +kernel
theorem dX1_ageRecords_71 : decode cX1_ageRecords 71 = .ok (.iload 6, 2) := by decide +kernel
theorem dX1_ageRecords_73 : decode cX1_ageRecords 73 = .ok (.iconst 4, 1) := by decide +kernel
theorem dX1_ageRecords_74 : decode cX1_ageRecords 74 = .ok (.if_icmp .ge 23, 3) := by decide +kernel
theorem dX1_ageRecords_77 : decode cX1_ageRecords 77 = .ok (.aload_n 0, 1) := by decide +kernel
theorem dX1_ageRecords_78 : decode cX1_ageRecords 78 = .ok (.getfield 74, 3) := by decide +kernel
theorem dX1_ageRecords_81 : decode cX1_ageRecords 81 = .ok (.iload 7, 2) := by decide +kernel
theorem dX1_ageRecords_83 : decode cX1_ageRecords 83 = .ok (.if_icmp .lt 14, 3) := by decide +kernel
theorem dX1_ageRecords_86 : decode cX1_ageRecords 86 = .ok (.aload_n 3, 1) := by decide +kernel
theorem dX1_ageRecords_87 : decode cX1_ageRecords 87 = .ok (.iload 5, 2) := by decide +kernel
theorem dX1_ageRecords_89 : decode cX1_ageRecords 89 = .ok (.bipush 7, 2) := by decide +kernel
theorem dX1_ageRecords_91 : decode cX1_ageRecords 91 = .ok (.invokevirtual 279, 3) := by decide +kernel
theorem dX1_ageRecords_94 : decode cX1_ageRecords 94 = .ok (.iinc 4 1, 3) := by decide +kernel
theorem dX1_ageRecords_97 : decode cX1_ageRecords 97 = .ok (.iinc 5 1, 3) := by decide +kernel
theorem dX1_ageRecords_100 : decode cX1_ageRecords 100 = .ok (.goto (-88), 3) := by decide +kernel
theorem dX1_ageRecords_103 : decode cX1_ageRecords 103 = .ok (.iload 4, 2) := by decide +kernel
theorem dX1_ageRecords_105 : decode cX1_ageRecords 105 = .ok (.ireturn, 1) := by decide +kernel
theorem dX1_beginToProbe_0 : decode cX1_beginToProbe 0 = .ok (.aload_n 0, 1) := by decide +kernel
theorem dX1_beginToProbe_1 : decode cX1_beginToProbe 1 = .ok (.getfield 23, 3) := by decide +kernel
theorem dX1_beginToProbe_4 : decode cX1_beginToProbe 4 = .ok (.iload_n 1, 1) := by decide +kernel
theorem dX1_beginToProbe_5 : decode cX1_beginToProbe 5 = .ok (.bipush 6, 2) := by decide +kernel
theorem dX1_beginToProbe_7 : decode cX1_beginToProbe 7 = .ok (.iconst 0, 1) := by decide +kernel
theorem dX1_beginToProbe_8 : decode cX1_beginToProbe 8 = .ok (.invokevirtual 223, 3) := by decide +kernel
theorem dX1_beginToProbe_11 : decode cX1_beginToProbe 11 = .ok (.aload_n 0, 1) := by decide +kernel
theorem dX1_beginToProbe_12 : decode cX1_beginToProbe 12 = .ok (.getfield 23, 3) := by decide +kernel
theorem dX1_beginToProbe_15 : decode cX1_beginToProbe 15 = .ok (.iload_n 1, 1) := by decide +kernel
theorem dX1_beginToProbe_16 : decode cX1_beginToProbe 16 = .ok (.bipush 7, 2) := by decide +kernel
theorem dX1_beginToProbe_18 : decode cX1_beginToProbe 18 = .ok (.iconst 0, 1) := by decide +kernel
theorem dX1_beginToProbe_19 : decode cX1_beginToProbe 19 = .ok (.invokevirtual 223, 3) := by decide +kernel
theorem dX1_beginToProbe_22 : decode cX1_beginToProbe 22 = .ok (.aload_n 0, 1) := by decide +kernel
theorem dX1_beginToProbe_23 : decode cX1_beginToProbe 23 = .ok (.getfield 23, 3) := by decide +kernel
theorem dX1_beginToProbe_26 : decode cX1_beginToProbe 26 = .ok (.iload_n 1, 1) := by decide +kernel
theorem dX1_beginToProbe_27 : decode cX1_beginToProbe 27 = .ok (.bipush 8, 2) := by decide +kernel
theorem dX1_beginToProbe_29 : decode cX1_beginToProbe 29 = .ok (.iload_n 2, 1) := by decide +kernel
theorem dX1_beginToProbe_30 : decode cX1_beginToProbe 30 = .ok (.invokevirtual 223, 3) := by decide +kernel
theorem dX1_beginToProbe_33 : decode cX1_beginToProbe 33 = .ok (.aload_n 0, 1) := by decide +kernel
theorem dX1_beginToProbe_34 : decode cX1_beginToProbe 34 = .ok (.dup, 1) := by decide +kernel
theorem dX1_beginToProbe_35 : decode cX1_beginToProbe 35 = .ok (.getfield 94, 3) := by decide +kernel
theorem dX1_beginToProbe_38 : decode cX1_beginToProbe 38 = .ok (.iconst 1, 1) := by decide +kernel
theorem dX1_beginToProbe_39 : decode cX1_beginToProbe 39 = .ok (.iadd, 1) := by decide +kernel
theorem dX1_beginToProbe_40 : decode cX1_beginToProbe 40 = .ok (.putfield 94, 3) := by decide +kernel
theorem dX1_beginToProbe_43 : decode cX1_beginToProbe 43 = .ok (.return_, 1) := by decide +kernel
theorem dX1_renameService_0 : decode cX1_renameService 0 = .ok (.iconst 0, 1) := by decide +kernel
theorem dX1_renameService_1 : decode cX1_renameService 1 = .ok (.istore_n 2, 1) := by decide +kernel
theorem dX1_renameService_2 : decode cX1_renameService 2 = .ok (.iconst 0, 1) := by decide +kernel
theorem dX1_renameService_3 : decode cX1_renameService 3 = .ok (.istore_n 3, 1) := by decide +kernel
theorem dX1_renameService_4 : decode cX1_renameService 4 = .ok (.iload_n 2, 1) := by decide +kernel
theorem dX1_renameService_5 : decode cX1_renameService 5 = .ok (.ifCond .ne 67, 3) := by decide +kernel
theorem dX1_renameService_8 : decode cX1_renameService 8 = .ok (.iload_n 3, 1) := by decide +kernel
theorem dX1_renameService_9 : decode cX1_renameService 9 = .ok (.aload_n 0, 1) := by decide +kernel
theorem dX1_renameService_10 : decode cX1_renameService 10 = .ok (.getfield 23, 3) := by decide +kernel
theorem dX1_renameService_13 : decode cX1_renameService 13 = .ok (.invokevirtual 111, 3) := by decide +kernel
theorem dX1_renameService_16 : decode cX1_renameService 16 = .ok (.if_icmp .gt 56, 3) := by decide +kernel
theorem dX1_renameService_19 : decode cX1_renameService 19 = .ok (.aload_n 0, 1) := by decide +kernel
theorem dX1_renameService_20 : decode cX1_renameService 20 = .ok (.getfield 23, 3) := by decide +kernel
theorem dX1_renameService_23 : decode cX1_renameService 23 = .ok (.iload_n 1, 1) := by decide +kernel
theorem dX1_renameService_24 : decode cX1_renameService 24 = .ok (.iconst 2, 1) := by decide +kernel
theorem dX1_renameService_25 : decode cX1_renameService 25 = .ok (.invokevirtual 104, 3) := by decide +kernel
theorem dX1_renameService_28 : decode cX1_renameService 28 = .ok (.istore 4, 2) := by decide +kernel
theorem dX1_renameService_30 : decode cX1_renameService 30 = .ok (.aload_n 0, 1) := by decide +kernel
theorem dX1_renameService_31 : decode cX1_renameService 31 = .ok (.getfield 23, 3) := by decide +kernel
theorem dX1_renameService_34 : decode cX1_renameService 34 = .ok (.iload_n 1, 1) := by decide +kernel
theorem dX1_renameService_35 : decode cX1_renameService 35 = .ok (.iconst 2, 1) := by decide +kernel
theorem dX1_renameService_36 : decode cX1_renameService 36 = .ok (.iload 4, 2) := by decide +kernel
theorem dX1_renameService_38 : decode cX1_renameService 38 = .ok (.ifCond .ne 7, 3) := by decide +kernel
theorem dX1_renameService_41 : decode cX1_renameService 41 = .ok (.iconst 2, 1) := by decide +kernel
theorem dX1_renameService_42 : decode cX1_renameService 42 = .ok (.goto 7, 3) := by decide +kernel
theorem dX1_renameService_49 : decode cX1_renameService 49 = .ok (.invokevirtual 223, 3) := by decide +kernel
theorem dX1_renameService_52 : decode cX1_renameService 52 = .ok (.aload_n 0, 1) := by decide +kernel
theorem dX1_renameService_53 : decode cX1_renameService 53 = .ok (.iload_n 1, 1) := by decide +kernel
theorem dX1_renameService_54 : decode cX1_renameService 54 = .ok (.invokevirtual 323, 3) := by decide +kernel
theorem dX1_renameService_57 : decode cX1_renameService 57 = .ok (.ifCond .ne 7, 3) := by decide +kernel
theorem dX1_renameService_60 : decode cX1_renameService 60 = .ok (.iconst 1, 1) := by decide +kernel
theorem dX1_renameService_61 : decode cX1_renameService 61 = .ok (.goto 4, 3) := by decide +kernel
theorem dX1_renameService_65 : decode cX1_renameService 65 = .ok (.istore_n 2, 1) := by decide +kernel
theorem dX1_renameService_66 : decode cX1_renameService 66 = .ok (.iinc 3 1, 3) := by decide +kernel
theorem dX1_renameService_69 : decode cX1_renameService 69 = .ok (.goto (-65), 3) := by decide +kernel
theorem dX1_renameService_72 : decode cX1_renameService 72 = .ok (.aload_n 0, 1) := by decide +kernel
theorem dX1_renameService_73 : decode cX1_renameService 73 = .ok (.dup, 1) := by decide +kernel
theorem dX1_renameService_74 : decode cX1_renameService 74 = .ok (.getfield 85, 3) := by decide +kernel
theorem dX1_renameService_77 : decode cX1_renameService 77 = .ok (.iconst 1, 1) := by decide +kernel
theorem dX1_renameService_78 : decode cX1_renameService 78 = .ok (.iadd, 1) := by decide +kernel
theorem dX1_renameService_79 : decode cX1_renameService 79 = .ok (.putfield 85, 3) := by decide +kernel
theorem dX1_renameService_82 : decode cX1_renameService 82 = .ok (.aload_n 0, 1) := by decide +kernel
theorem dX1_renameService_83 : decode cX1_renameService 83 = .ok (.getfield 23, 3) := by decide +kernel
theorem dX1_renameService_86 : decode cX1_renameService 86 = .ok (.iload_n 1, 1) := by decide +kernel
theorem dX1_renameService_87 : decode cX1_renameService 87 = .ok (.bipush 9, 2) := by decide +kernel
theorem dX1_renameService_89 : decode cX1_renameService 89 = .ok (.invokevirtual 279, 3) := by decide +kernel
theorem dX1_renameService_92 : decode cX1_renameService 92 = .ok (.aload_n 0, 1) := by decide +kernel
theorem dX1_renameService_93 : decode cX1_renameService 93 = .ok (.iconst 0, 1) := by decide +kernel
theorem dX1_renameService_94 : decode cX1_renameService 94 = .ok (.iload_n 1, 1) := by decide +kernel
theorem dX1_renameService_95 : decode cX1_renameService 95 = .ok (.aload_n 0, 1) := by decide +kernel
theorem dX1_renameService_96 : decode cX1_renameService 96 = .ok (.getfield 23, 3) := by decide +kernel
theorem dX1_renameService_99 : decode cX1_renameService 99 = .ok (.iload_n 1, 1) := by decide +kernel
theorem dX1_renameService_100 : decode cX1_renameService 100 = .ok (.iconst 2, 1) := by decide +kernel
theorem dX1_renameService_101 : decode cX1_renameService 101 = .ok (.invokevirtual 104, 3) := by decide +kernel
theorem dX1_renameService_104 : decode cX1_renameService 104 = .ok (.invokevirtual 282, 3) := by decide +kernel
theorem dX1_renameService_107 : decode cX1_renameService 107 = .ok (.return_, 1) := by decide +kernel
theorem dX1_hasTwin_0 : decode cX1_hasTwin 0 = .ok (.iconst 0, 1) := by decide +kernel
theorem dX1_hasTwin_1 : decode cX1_hasTwin 1 = .ok (.istore_n 2, 1) := by decide +kernel
theorem dX1_hasTwin_2 : decode cX1_hasTwin 2 = .ok (.iload_n 2, 1) := by decide +kernel
theorem dX1_hasTwin_3 : decode cX1_hasTwin 3 = .ok (.aload_n 0, 1) := by decide +kernel
theorem dX1_hasTwin_4 : decode cX1_hasTwin 4 = .ok (.getfield 23, 3) := by decide +kernel
theorem dX1_hasTwin_7 : decode cX1_hasTwin 7 = .ok (.invokevirtual 111, 3) := by decide +kernel
theorem dX1_hasTwin_10 : decode cX1_hasTwin 10 = .ok (.if_icmp .ge 81, 3) := by decide +kernel
theorem dX1_hasTwin_13 : decode cX1_hasTwin 13 = .ok (.iload_n 2, 1) := by decide +kernel
theorem dX1_hasTwin_14 : decode cX1_hasTwin 14 = .ok (.iload_n 1, 1) := by decide +kernel
theorem dX1_hasTwin_15 : decode cX1_hasTwin 15 = .ok (.if_icmp .eq 28, 3) := by decide +kernel
theorem dX1_hasTwin_18 : decode cX1_hasTwin 18 = .ok (.aload_n 0, 1) := by decide +kernel
theorem dX1_hasTwin_19 : decode cX1_hasTwin 19 = .ok (.getfield 23, 3) := by decide +kernel
theorem dX1_hasTwin_22 : decode cX1_hasTwin 22 = .ok (.iload_n 2, 1) := by decide +kernel
theorem dX1_hasTwin_23 : decode cX1_hasTwin 23 = .ok (.iconst 0, 1) := by decide +kernel
theorem dX1_hasTwin_24 : decode cX1_hasTwin 24 = .ok (.invokevirtual 104, 3) := by decide +kernel
theorem dX1_hasTwin_27 : decode cX1_hasTwin 27 = .ok (.aload_n 0, 1) := by decide +kernel
theorem dX1_hasTwin_28 : decode cX1_hasTwin 28 = .ok (.getfield 23, 3) := by decide +kernel
theorem dX1_hasTwin_31 : decode cX1_hasTwin 31 = .ok (.iload_n 1, 1) := by decide +kernel
theorem dX1_hasTwin_32 : decode cX1_hasTwin 32 = .ok (.iconst 0, 1) := by decide +kernel
theorem dX1_hasTwin_33 : decode cX1_hasTwin 33 = .ok (.invokevirtual 104, 3) := by decide +kernel
theorem dX1_hasTwin_36 : decode cX1_hasTwin 36 = .ok (.if_icmp .ne 7, 3) := by decide +kernel
theorem dX1_hasTwin_39 : decode cX1_hasTwin 39 = .ok (.iconst 1, 1) := by decide +kernel
theorem dX1_hasTwin_40 : decode cX1_hasTwin 40 = .ok (.goto 4, 3) := by decide +kernel
theorem dX1_hasTwin_43 : decode cX1_hasTwin 43 = .ok (.iconst 0, 1) := by decide +kernel
theorem dX1_hasTwin_44 : decode cX1_hasTwin 44 = .ok (.istore_n 3, 1) := by decide +kernel
theorem dX1_hasTwin_45 : decode cX1_hasTwin 45 = .ok (.aload_n 0, 1) := by decide +kernel
theorem dX1_hasTwin_46 : decode cX1_hasTwin 46 = .ok (.getfield 23, 3) := by decide +kernel
theorem dX1_hasTwin_49 : decode cX1_hasTwin 49 = .ok (.iload_n 1, 1) := by decide +kernel
theorem dX1_hasTwin_50 : decode cX1_hasTwin 50 = .ok (.aload_n 0, 1) := by decide +kernel
theorem dX1_hasTwin_51 : decode cX1_hasTwin 51 = .ok (.getfield 23, 3) := by decide +kernel
theorem dX1_hasTwin_54 : decode cX1_hasTwin 54 = .ok (.iload_n 2, 1) := by decide +kernel
theorem dX1_hasTwin_55 : decode cX1_hasTwin 55 = .ok (.invokevirtual 146, 3) := by decide +kernel
theorem dX1_hasTwin_58 : decode cX1_hasTwin 58 = .ok (.istore 4, 2) := by decide +kernel
theorem dX1_hasTwin_60 : decode cX1_hasTwin 60 = .ok (.iload_n 3, 1) := by decide +kernel
theorem dX1_hasTwin_61 : decode cX1_hasTwin 61 = .ok (.ifCond .eq 24, 3) := by decide +kernel
theorem dX1_hasTwin_64 : decode cX1_hasTwin 64 = .ok (.iload 4, 2) := by decide +kernel
theorem dX1_hasTwin_66 : decode cX1_hasTwin 66 = .ok (.ifCond .eq 19, 3) := by decide +kernel
theorem dX1_hasTwin_69 : decode cX1_hasTwin 69 = .ok (.aload_n 0, 1) := by decide +kernel
theorem dX1_hasTwin_70 : decode cX1_hasTwin 70 = .ok (.getfield 23, 3) := by decide +kernel
theorem dX1_hasTwin_73 : decode cX1_hasTwin 73 = .ok (.iload_n 2, 1) := by decide +kernel
theorem dX1_hasTwin_74 : decode cX1_hasTwin 74 = .ok (.bipush 6, 2) := by decide +kernel
theorem dX1_hasTwin_76 : decode cX1_hasTwin 76 = .ok (.invokevirtual 104, 3) := by decide +kernel
theorem dX1_hasTwin_79 : decode cX1_hasTwin 79 = .ok (.iconst 3, 1) := by decide +kernel
theorem dX1_hasTwin_80 : decode cX1_hasTwin 80 = .ok (.if_icmp .eq 5, 3) := by decide +kernel
theorem dX1_hasTwin_83 : decode cX1_hasTwin 83 = .ok (.iconst 1, 1) := by decide +kernel
theorem dX1_hasTwin_84 : decode cX1_hasTwin 84 = .ok (.ireturn, 1) := by decide +kernel
theorem dX1_hasTwin_85 : decode cX1_hasTwin 85 = .ok (.iinc 2 1, 3) := by decide +kernel
theorem dX1_hasTwin_88 : decode cX1_hasTwin 88 = .ok (.goto (-86), 3) := by decide +kernel
theorem dX1_hasTwin_91 : decode cX1_hasTwin 91 = .ok (.iconst 0, 1) := by decide +kernel
theorem dX1_hasTwin_92 : decode cX1_hasTwin 92 = .ok (.ireturn, 1) := by decide +kernel
theorem dX1_sendFor_0 : decode cX1_sendFor 0 = .ok (.aload_n 0, 1) := by decide +kernel
theorem dX1_sendFor_1 : decode cX1_sendFor 1 = .ok (.getfield 78, 3) := by decide +kernel
theorem dX1_sendFor_4 : decode cX1_sendFor 4 = .ok (.invokestatic 134, 3) := by decide +kernel
theorem dX1_sendFor_7 : decode cX1_sendFor 7 = .ok (.istore_n 3, 1) := by decide +kernel
theorem dX1_sendFor_8 : decode cX1_sendFor 8 = .ok (.iload_n 2, 1) := by decide +kernel
theorem dX1_sendFor_9 : decode cX1_sendFor 9 = .ok (.ifCond .ne 7, 3) := by decide +kernel
theorem dX1_sendFor_12 : decode cX1_sendFor 12 = .ok (.iconst 0, 1) := by decide +kernel
theorem dX1_sendFor_13 : decode cX1_sendFor 13 = .ok (.goto 4, 3) := by decide +kernel
theorem dX1_sendFor_16 : decode cX1_sendFor 16 = .ok (.iconst 1, 1) := by decide +kernel
theorem dX1_sendFor_17 : decode cX1_sendFor 17 = .ok (.istore 4, 2) := by decide +kernel
theorem dX1_sendFor_19 : decode cX1_sendFor 19 = .ok (.aload_n 0, 1) := by decide +kernel
theorem dX1_sendFor_20 : decode cX1_sendFor 20 = .ok (.aload_n 0, 1) := by decide +kernel
theorem dX1_sendFor_21 : decode cX1_sendFor 21 = .ok (.getfield 23, 3) := by decide +kernel
theorem dX1_sendFor_24 : decode cX1_sendFor 24 = .ok (.iload_n 1, 1) := by decide +kernel
theorem dX1_sendFor_25 : decode cX1_sendFor 25 = .ok (.iconst 0, 1) := by decide +kernel
theorem dX1_sendFor_26 : decode cX1_sendFor 26 = .ok (.invokevirtual 104, 3) := by decide +kernel
theorem dX1_sendFor_29 : decode cX1_sendFor 29 = .ok (.iload 4, 2) := by decide +kernel
theorem dX1_sendFor_31 : decode cX1_sendFor 31 = .ok (.invokevirtual 326, 3) := by decide +kernel
theorem dX1_sendFor_34 : decode cX1_sendFor 34 = .ok (.ifCond .eq 55, 3) := by decide +kernel
theorem dX1_sendFor_37 : decode cX1_sendFor 37 = .ok (.iload_n 2, 1) := by decide +kernel
theorem dX1_sendFor_38 : decode cX1_sendFor 38 = .ok (.ifCond .ne 7, 3) := by decide +kernel
theorem dX1_sendFor_41 : decode cX1_sendFor 41 = .ok (.iconst (-1), 1) := by decide +kernel
theorem dX1_sendFor_42 : decode cX1_sendFor 42 = .ok (.goto 21, 3) := by decide +kernel
theorem dX1_sendFor_45 : decode cX1_sendFor 45 = .ok (.iload_n 2, 1) := by decide +kernel
theorem dX1_sendFor_46 : decode cX1_sendFor 46 = .ok (.iconst 3, 1) := by decide +kernel
theorem dX1_sendFor_47 : decode cX1_sendFor 47 = .ok (.if_icmp .ne 7, 3) := by decide +kernel
theorem dX1_sendFor_50 : decode cX1_sendFor 50 = .ok (.iconst 0, 1) := by decide +kernel
theorem dX1_sendFor_51 : decode cX1_sendFor 51 = .ok (.goto 12, 3) := by decide +kernel
theorem dX1_sendFor_54 : decode cX1_sendFor 54 = .ok (.aload_n 0, 1) := by decide +kernel
theorem dX1_sendFor_55 : decode cX1_sendFor 55 = .ok (.getfield 23, 3) := by decide +kernel
theorem dX1_sendFor_58 : decode cX1_sendFor 58 = .ok (.iload_n 1, 1) := by decide +kernel
theorem dX1_sendFor_59 : decode cX1_sendFor 59 = .ok (.iconst 4, 1) := by decide +kernel
theorem dX1_sendFor_60 : decode cX1_sendFor 60 = .ok (.invokevirtual 104, 3) := by decide +kernel
theorem dX1_sendFor_63 : decode cX1_sendFor 63 = .ok (.istore 5, 2) := by decide +kernel
theorem dX1_sendFor_65 : decode cX1_sendFor 65 = .ok (.aload_n 0, 1) := by decide +kernel
theorem dX1_sendFor_66 : decode cX1_sendFor 66 = .ok (.getfield 52, 3) := by decide +kernel
theorem dX1_sendFor_69 : decode cX1_sendFor 69 = .ok (.aload_n 0, 1) := by decide +kernel
theorem dX1_sendFor_70 : decode cX1_sendFor 70 = .ok (.getfield 52, 3) := by decide +kernel
theorem dX1_sendFor_73 : decode cX1_sendFor 73 = .ok (.aload_n 0, 1) := by decide +kernel
theorem dX1_sendFor_74 : decode cX1_sendFor 74 = .ok (.getfield 23, 3) := by decide +kernel
theorem dX1_sendFor_77 : decode cX1_sendFor 77 = .ok (.iload_n 1, 1) := by decide +kernel
theorem dX1_sendFor_78 : decode cX1_sendFor 78 = .ok (.iload 4, 2) := by decide +kernel
theorem dX1_sendFor_80 : decode cX1_sendFor 80 = .ok (.iload 5, 2) := by decide +kernel
theorem dX1_sendFor_82 : decode cX1_sendFor 82 = .ok (.invokevirtual 263, 3) := by decide +kernel
theorem dX1_sendFor_85 : decode cX1_sendFor 85 = .ok (.iload_n 3, 1) := by decide +kernel
theorem dX1_sendFor_86 : decode cX1_sendFor 86 = .ok (.invokevirtual 267, 3) := by decide +kernel
theorem dX1_sendFor_89 : decode cX1_sendFor 89 = .ok (.return_, 1) := by decide +kernel
theorem dX1_sendQuery_0 : decode cX1_sendQuery 0 = .ok (.aload_n 0, 1) := by decide +kernel
theorem dX1_sendQuery_1 : decode cX1_sendQuery 1 = .ok (.getfield 78, 3) := by decide +kernel
theorem dX1_sendQuery_4 : decode cX1_sendQuery 4 = .ok (.invokestatic 134, 3) := by decide +kernel
theorem dX1_sendQuery_7 : decode cX1_sendQuery 7 = .ok (.istore_n 3, 1) := by decide +kernel
theorem dX1_sendQuery_8 : decode cX1_sendQuery 8 = .ok (.aload_n 0, 1) := by decide +kernel
theorem dX1_sendQuery_9 : decode cX1_sendQuery 9 = .ok (.iload_n 1, 1) := by decide +kernel
theorem dX1_sendQuery_10 : decode cX1_sendQuery 10 = .ok (.iconst 2, 1) := by decide +kernel
theorem dX1_sendQuery_11 : decode cX1_sendQuery 11 = .ok (.invokevirtual 326, 3) := by decide +kernel
theorem dX1_sendQuery_14 : decode cX1_sendQuery 14 = .ok (.ifCond .ne 4, 3) := by decide +kernel
theorem dX1_sendQuery_17 : decode cX1_sendQuery 17 = .ok (.return_, 1) := by decide +kernel
theorem dX1_sendQuery_18 : decode cX1_sendQuery 18 = .ok (.aload_n 0, 1) := by decide +kernel
theorem dX1_sendQuery_19 : decode cX1_sendQuery 19 = .ok (.iload_n 1, 1) := by decide +kernel
theorem dX1_sendQuery_20 : decode cX1_sendQuery 20 = .ok (.invokevirtual 70, 3) := by decide +kernel
theorem dX1_sendQuery_23 : decode cX1_sendQuery 23 = .ok (.astore 4, 2) := by decide +kernel
theorem dX1_sendQuery_25 : decode cX1_sendQuery 25 = .ok (.aload_n 0, 1) := by decide +kernel
theorem dX1_sendQuery_26 : decode cX1_sendQuery 26 = .ok (.getfield 29, 3) := by decide +kernel
theorem dX1_sendQuery_29 : decode cX1_sendQuery 29 = .ok (.invokevirtual 111, 3) := by decide +kernel
theorem dX1_sendQuery_32 : decode cX1_sendQuery 32 = .ok (.istore 5, 2) := by decide +kernel
theorem dX1_sendQuery_34 : decode cX1_sendQuery 34 = .ok (.iconst 0, 1) := by decide +kernel
theorem dX1_sendQuery_35 : decode cX1_sendQuery 35 = .ok (.istore 6, 2) := by decide +kernel
theorem dX1_sendQuery_37 : decode cX1_sendQuery 37 = .ok (.iload 6, 2) := by decide +kernel
theorem dX1_sendQuery_39 : decode cX1_sendQuery 39 = .ok (.aload 4, 2) := by decide +kernel
theorem dX1_sendQuery_41 : decode cX1_sendQuery 41 = .ok (.invokevirtual 111, 3) := by decide +kernel
theorem dX1_sendQuery_44 : decode cX1_sendQuery 44 = .ok (.if_icmp .ge 76, 3) := by decide +kernel
theorem dX1_sendQuery_47 : decode cX1_sendQuery 47 = .ok (.aload 4, 2) := by decide +kernel
theorem dX1_sendQuery_49 : decode cX1_sendQuery 49 = .ok (.iload 6, 2) := by decide +kernel
theorem dX1_sendQuery_51 : decode cX1_sendQuery 51 = .ok (.invokevirtual 308, 3) := by decide +kernel
theorem dX1_sendQuery_54 : decode cX1_sendQuery 54 = .ok (.aload_n 0, 1) := by decide +kernel
theorem dX1_sendQuery_55 : decode cX1_sendQuery 55 = .ok (.getfield 74, 3) := by decide +kernel
theorem dX1_sendQuery_58 : decode cX1_sendQuery 58 = .ok (.isub, 1) := by decide +kernel
theorem dX1_sendQuery_59 : decode cX1_sendQuery 59 = .ok (.aload 4, 2) := by decide +kernel
theorem dX1_sendQuery_61 : decode cX1_sendQuery 61 = .ok (.iload 6, 2) := by decide +kernel
theorem dX1_sendQuery_63 : decode cX1_sendQuery 63 = .ok (.iconst 4, 1) := by decide +kernel
theorem dX1_sendQuery_64 : decode cX1_sendQuery 64 = .ok (.invokevirtual 104, 3) := by decide +kernel
theorem dX1_sendQuery_67 : decode cX1_sendQuery 67 = .ok (.iconst 2, 1) := by decide +kernel
theorem dX1_sendQuery_68 : decode cX1_sendQuery 68 = .ok (.idiv, 1) := by decide +kernel
theorem dX1_sendQuery_69 : decode cX1_sendQuery 69 = .ok (.if_icmp .le 7, 3) := by decide +kernel
theorem dX1_sendQuery_72 : decode cX1_sendQuery 72 = .ok (.iconst 1, 1) := by decide +kernel
theorem dX1_sendQuery_73 : decode cX1_sendQuery 73 = .ok (.goto 4, 3) := by decide +kernel
theorem dX1_sendQuery_76 : decode cX1_sendQuery 76 = .ok (.iconst 0, 1) := by decide +kernel
theorem dX1_sendQuery_77 : decode cX1_sendQuery 77 = .ok (.istore 7, 2) := by decide +kernel
theorem dX1_sendQuery_79 : decode cX1_sendQuery 79 = .ok (.iload 7, 2) := by decide +kernel
theorem dX1_sendQuery_81 : decode cX1_sendQuery 81 = .ok (.ifCond .eq 33, 3) := by decide +kernel
theorem dX1_sendQuery_84 : decode cX1_sendQuery 84 = .ok (.aload 4, 2) := by decide +kernel
theorem dX1_sendQuery_86 : decode cX1_sendQuery 86 = .ok (.iload 6, 2) := by decide +kernel
theorem dX1_sendQuery_88 : decode cX1_sendQuery 88 = .ok (.iconst 1, 1) := by decide +kernel
theorem dX1_sendQuery_89 : decode cX1_sendQuery 89 = .ok (.invokevirtual 104, 3) := by decide +kernel
theorem dX1_sendQuery_92 : decode cX1_sendQuery 92 = .ok (.iload_n 2, 1) := by decide +kernel
theorem dX1_sendQuery_93 : decode cX1_sendQuery 93 = .ok (.if_icmp .ne 21, 3) := by decide +kernel
theorem dX1_sendQuery_96 : decode cX1_sendQuery 96 = .ok (.aload_n 0, 1) := by decide +kernel
theorem dX1_sendQuery_97 : decode cX1_sendQuery 97 = .ok (.getfield 29, 3) := by decide +kernel
theorem dX1_sendQuery_100 : decode cX1_sendQuery 100 = .ok (.aload_n 0, 1) := by decide +kernel
theorem dX1_sendQuery_101 : decode cX1_sendQuery 101 = .ok (.getfield 29, 3) := by decide +kernel
theorem dX1_sendQuery_104 : decode cX1_sendQuery 104 = .ok (.invokevirtual 65, 3) := by decide +kernel
theorem dX1_sendQuery_107 : decode cX1_sendQuery 107 = .ok (.aload 4, 2) := by decide +kernel
theorem dX1_sendQuery_109 : decode cX1_sendQuery 109 = .ok (.iload 6, 2) := by decide +kernel
theorem dX1_sendQuery_111 : decode cX1_sendQuery 111 = .ok (.invokevirtual 304, 3) := by decide +kernel
theorem dX1_sendQuery_114 : decode cX1_sendQuery 114 = .ok (.iinc 6 1, 3) := by decide +kernel
theorem dX1_sendQuery_117 : decode cX1_sendQuery 117 = .ok (.goto (-80), 3) := by decide +kernel
theorem dX1_sendQuery_120 : decode cX1_sendQuery 120 = .ok (.aload_n 0, 1) := by decide +kernel
theorem dX1_sendQuery_121 : decode cX1_sendQuery 121 = .ok (.getfield 52, 3) := by decide +kernel
theorem dX1_sendQuery_124 : decode cX1_sendQuery 124 = .ok (.iconst 2, 1) := by decide +kernel
theorem dX1_sendQuery_125 : decode cX1_sendQuery 125 = .ok (.iload_n 1, 1) := by decide +kernel
theorem dX1_sendQuery_126 : decode cX1_sendQuery 126 = .ok (.invokevirtual 329, 3) := by decide +kernel
theorem dX1_sendQuery_129 : decode cX1_sendQuery 129 = .ok (.istore 6, 2) := by decide +kernel
theorem dX1_sendQuery_131 : decode cX1_sendQuery 131 = .ok (.aload_n 0, 1) := by decide +kernel
theorem dX1_sendQuery_132 : decode cX1_sendQuery 132 = .ok (.getfield 52, 3) := by decide +kernel
theorem dX1_sendQuery_135 : decode cX1_sendQuery 135 = .ok (.getfield 207, 3) := by decide +kernel
theorem dX1_sendQuery_138 : decode cX1_sendQuery 138 = .ok (.iload 6, 2) := by decide +kernel
theorem dX1_sendQuery_140 : decode cX1_sendQuery 140 = .ok (.iconst 1, 1) := by decide +kernel
theorem dX1_sendQuery_141 : decode cX1_sendQuery 141 = .ok (.iload_n 2, 1) := by decide +kernel
theorem dX1_sendQuery_142 : decode cX1_sendQuery 142 = .ok (.invokevirtual 223, 3) := by decide +kernel
theorem dX1_sendQuery_145 : decode cX1_sendQuery 145 = .ok (.aload_n 0, 1) := by decide +kernel
theorem dX1_sendQuery_146 : decode cX1_sendQuery 146 = .ok (.getfield 52, 3) := by decide +kernel
theorem dX1_sendQuery_149 : decode cX1_sendQuery 149 = .ok (.getfield 207, 3) := by decide +kernel
theorem dX1_sendQuery_152 : decode cX1_sendQuery 152 = .ok (.iload 6, 2) := by decide +kernel
theorem dX1_sendQuery_154 : decode cX1_sendQuery 154 = .ok (.iconst 2, 1) := by decide +kernel
theorem dX1_sendQuery_155 : decode cX1_sendQuery 155 = .ok (.iconst (-1), 1) := by decide +kernel
theorem dX1_sendQuery_156 : decode cX1_sendQuery 156 = .ok (.invokevirtual 223, 3) := by decide +kernel
theorem dX1_sendQuery_159 : decode cX1_sendQuery 159 = .ok (.aload_n 0, 1) := by decide +kernel
theorem dX1_sendQuery_160 : decode cX1_sendQuery 160 = .ok (.getfield 52, 3) := by decide +kernel
theorem dX1_sendQuery_163 : decode cX1_sendQuery 163 = .ok (.getfield 207, 3) := by decide +kernel
theorem dX1_sendQuery_166 : decode cX1_sendQuery 166 = .ok (.iload 6, 2) := by decide +kernel
theorem dX1_sendQuery_168 : decode cX1_sendQuery 168 = .ok (.iconst 3, 1) := by decide +kernel
theorem dX1_sendQuery_169 : decode cX1_sendQuery 169 = .ok (.iconst (-1), 1) := by decide +kernel
theorem dX1_sendQuery_170 : decode cX1_sendQuery 170 = .ok (.invokevirtual 223, 3) := by decide +kernel
theorem dX1_sendQuery_173 : decode cX1_sendQuery 173 = .ok (.aload_n 0, 1) := by decide +kernel
theorem dX1_sendQuery_174 : decode cX1_sendQuery 174 = .ok (.getfield 52, 3) := by decide +kernel
theorem dX1_sendQuery_177 : decode cX1_sendQuery 177 = .ok (.getfield 207, 3) := by decide +kernel
theorem dX1_sendQuery_180 : decode cX1_sendQuery 180 = .ok (.iload 6, 2) := by decide +kernel
theorem dX1_sendQuery_182 : decode cX1_sendQuery 182 = .ok (.iconst 4, 1) := by decide +kernel
theorem dX1_sendQuery_183 : decode cX1_sendQuery 183 = .ok (.iconst (-1), 1) := by decide +kernel
theorem dX1_sendQuery_184 : decode cX1_sendQuery 184 = .ok (.invokevirtual 223, 3) := by decide +kernel
theorem dX1_sendQuery_187 : decode cX1_sendQuery 187 = .ok (.aload_n 0, 1) := by decide +kernel
theorem dX1_sendQuery_188 : decode cX1_sendQuery 188 = .ok (.getfield 52, 3) := by decide +kernel
theorem dX1_sendQuery_191 : decode cX1_sendQuery 191 = .ok (.getfield 207, 3) := by decide +kernel
theorem dX1_sendQuery_194 : decode cX1_sendQuery 194 = .ok (.iload 6, 2) := by decide +kernel
theorem dX1_sendQuery_196 : decode cX1_sendQuery 196 = .ok (.iconst 5, 1) := by decide +kernel
theorem dX1_sendQuery_197 : decode cX1_sendQuery 197 = .ok (.iconst (-1), 1) := by decide +kernel
theorem dX1_sendQuery_198 : decode cX1_sendQuery 198 = .ok (.invokevirtual 223, 3) := by decide +kernel
theorem dX1_sendQuery_201 : decode cX1_sendQuery 201 = .ok (.aload_n 0, 1) := by decide +kernel
theorem dX1_sendQuery_202 : decode cX1_sendQuery 202 = .ok (.getfield 52, 3) := by decide +kernel
theorem dX1_sendQuery_205 : decode cX1_sendQuery 205 = .ok (.getfield 207, 3) := by decide +kernel
theorem dX1_sendQuery_208 : decode cX1_sendQuery 208 = .ok (.iload 6, 2) := by decide +kernel
theorem dX1_sendQuery_210 : decode cX1_sendQuery 210 = .ok (.bipush 8, 2) := by decide +kernel
theorem dX1_sendQuery_212 : decode cX1_sendQuery 212 = .ok (.iload 5, 2) := by decide +kernel
theorem dX1_sendQuery_214 : decode cX1_sendQuery 214 = .ok (.invokevirtual 223, 3) := by decide +kernel
theorem dX1_sendQuery_217 : decode cX1_sendQuery 217 = .ok (.aload_n 0, 1) := by decide +kernel
theorem dX1_sendQuery_218 : decode cX1_sendQuery 218 = .ok (.getfield 52, 3) := by decide +kernel
theorem dX1_sendQuery_221 : decode cX1_sendQuery 221 = .ok (.getfield 207, 3) := by decide +kernel
theorem dX1_sendQuery_224 : decode cX1_sendQuery 224 = .ok (.iload 6, 2) := by decide +kernel
theorem dX1_sendQuery_226 : decode cX1_sendQuery 226 = .ok (.bipush 7, 2) := by decide +kernel
theorem dX1_sendQuery_228 : decode cX1_sendQuery 228 = .ok (.aload_n 0, 1) := by decide +kernel
theorem dX1_sendQuery_229 : decode cX1_sendQuery 229 = .ok (.getfield 29, 3) := by decide +kernel
theorem dX1_sendQuery_232 : decode cX1_sendQuery 232 = .ok (.invokevirtual 111, 3) := by decide +kernel
theorem dX1_sendQuery_235 : decode cX1_sendQuery 235 = .ok (.iload 5, 2) := by decide +kernel
theorem dX1_sendQuery_237 : decode cX1_sendQuery 237 = .ok (.isub, 1) := by decide +kernel
theorem dX1_sendQuery_238 : decode cX1_sendQuery 238 = .ok (.invokevirtual 223, 3) := by decide +kernel
theorem dX1_sendQuery_241 : decode cX1_sendQuery 241 = .ok (.aload_n 0, 1) := by decide +kernel
theorem dX1_sendQuery_242 : decode cX1_sendQuery 242 = .ok (.getfield 52, 3) := by decide +kernel
theorem dX1_sendQuery_245 : decode cX1_sendQuery 245 = .ok (.iload 6, 2) := by decide +kernel
theorem dX1_sendQuery_247 : decode cX1_sendQuery 247 = .ok (.iload_n 3, 1) := by decide +kernel
theorem dX1_sendQuery_248 : decode cX1_sendQuery 248 = .ok (.invokevirtual 267, 3) := by decide +kernel
theorem dX1_sendQuery_251 : decode cX1_sendQuery 251 = .ok (.return_, 1) := by decide +kernel
theorem dX1_countMessage_0 : decode cX1_countMessage 0 = .ok (.aload_n 0, 1) := by decide +kernel
theorem dX1_countMessage_1 : decode cX1_countMessage 1 = .ok (.getfield 78, 3) := by decide +kernel
theorem dX1_countMessage_4 : decode cX1_countMessage 4 = .ok (.invokestatic 134, 3) := by decide +kernel
theorem dX1_countMessage_7 : decode cX1_countMessage 7 = .ok (.istore_n 3, 1) := by decide +kernel
theorem dX1_countMessage_8 : decode cX1_countMessage 8 = .ok (.aload_n 0, 1) := by decide +kernel
theorem dX1_countMessage_9 : decode cX1_countMessage 9 = .ok (.dup, 1) := by decide +kernel
theorem dX1_countMessage_10 : decode cX1_countMessage 10 = .ok (.getfield 78, 3) := by decide +kernel
theorem dX1_countMessage_13 : decode cX1_countMessage 13 = .ok (.lconst 1, 1) := by decide +kernel
theorem dX1_countMessage_14 : decode cX1_countMessage 14 = .ok (.ladd, 1) := by decide +kernel
theorem dX1_countMessage_15 : decode cX1_countMessage 15 = .ok (.putfield 78, 3) := by decide +kernel
theorem dX1_countMessage_18 : decode cX1_countMessage 18 = .ok (.aload_n 0, 1) := by decide +kernel
theorem dX1_countMessage_19 : decode cX1_countMessage 19 = .ok (.getfield 14, 3) := by decide +kernel
theorem dX1_countMessage_22 : decode cX1_countMessage 22 = .ok (.iload_n 1, 1) := by decide +kernel
theorem dX1_countMessage_23 : decode cX1_countMessage 23 = .ok (.iconst 3, 1) := by decide +kernel
theorem dX1_countMessage_24 : decode cX1_countMessage 24 = .ok (.invokevirtual 279, 3) := by decide +kernel
theorem dX1_countMessage_27 : decode cX1_countMessage 27 = .ok (.aload_n 0, 1) := by decide +kernel
theorem dX1_countMessage_28 : decode cX1_countMessage 28 = .ok (.getfield 32, 3) := by decide +kernel
theorem dX1_countMessage_31 : decode cX1_countMessage 31 = .ok (.iconst 0, 1) := by decide +kernel
theorem dX1_countMessage_32 : decode cX1_countMessage 32 = .ok (.iload_n 3, 1) := by decide +kernel
theorem dX1_countMessage_33 : decode cX1_countMessage 33 = .ok (.invokevirtual 332, 3) := by decide +kernel
theorem dX1_countMessage_36 : decode cX1_countMessage 36 = .ok (.iconst (-1), 1) := by decide +kernel
theorem dX1_countMessage_37 : decode cX1_countMessage 37 = .ok (.if_icmp .ne 5, 3) := by decide +kernel
theorem dX1_countMessage_40 : decode cX1_countMessage 40 = .ok (.iconst 1, 1) := by decide +kernel
theorem dX1_countMessage_41 : decode cX1_countMessage 41 = .ok (.ireturn, 1) := by decide +kernel
theorem dX1_noteEvent_0 : decode cX1_noteEvent 0 = .ok (.aload_n 0, 1) := by decide +kernel
theorem dX1_noteEvent_1 : decode cX1_noteEvent 1 = .ok (.getfield 91, 3) := by decide +kernel
theorem dX1_noteEvent_4 : decode cX1_noteEvent 4 = .ok (.bipush 20, 2) := by decide +kernel
theorem dX1_noteEvent_6 : decode cX1_noteEvent 6 = .ok (.irem, 1) := by decide +kernel
theorem dX1_noteEvent_7 : decode cX1_noteEvent 7 = .ok (.istore 4, 2) := by decide +kernel
theorem dX1_noteEvent_9 : decode cX1_noteEvent 9 = .ok (.aload_n 0, 1) := by decide +kernel
theorem dX1_noteEvent_10 : decode cX1_noteEvent 10 = .ok (.getfield 35, 3) := by decide +kernel
theorem dX1_noteEvent_13 : decode cX1_noteEvent 13 = .ok (.iload 4, 2) := by decide +kernel
theorem dX1_noteEvent_15 : decode cX1_noteEvent 15 = .ok (.iconst 0, 1) := by decide +kernel
theorem dX1_noteEvent_16 : decode cX1_noteEvent 16 = .ok (.iload_n 1, 1) := by decide +kernel
theorem dX1_noteEvent_17 : decode cX1_noteEvent 17 = .ok (.invokevirtual 223, 3) := by decide +kernel
theorem dX1_noteEvent_20 : decode cX1_noteEvent 20 = .ok (.aload_n 0, 1) := by decide +kernel
theorem dX1_noteEvent_21 : decode cX1_noteEvent 21 = .ok (.getfield 35, 3) := by decide +kernel
theorem dX1_noteEvent_24 : decode cX1_noteEvent 24 = .ok (.iload 4, 2) := by decide +kernel
theorem dX1_noteEvent_26 : decode cX1_noteEvent 26 = .ok (.iconst 1, 1) := by decide +kernel
theorem dX1_noteEvent_27 : decode cX1_noteEvent 27 = .ok (.aload_n 0, 1) := by decide +kernel
theorem dX1_noteEvent_28 : decode cX1_noteEvent 28 = .ok (.getfield 74, 3) := by decide +kernel
theorem dX1_noteEvent_31 : decode cX1_noteEvent 31 = .ok (.invokevirtual 223, 3) := by decide +kernel
theorem dX1_noteEvent_34 : decode cX1_noteEvent 34 = .ok (.aload_n 0, 1) := by decide +kernel
theorem dX1_noteEvent_35 : decode cX1_noteEvent 35 = .ok (.getfield 35, 3) := by decide +kernel
theorem dX1_noteEvent_38 : decode cX1_noteEvent 38 = .ok (.iload 4, 2) := by decide +kernel
theorem dX1_noteEvent_40 : decode cX1_noteEvent 40 = .ok (.iconst 2, 1) := by decide +kernel
theorem dX1_noteEvent_41 : decode cX1_noteEvent 41 = .ok (.iload_n 2, 1) := by decide +kernel
theorem dX1_noteEvent_42 : decode cX1_noteEvent 42 = .ok (.invokevirtual 223, 3) := by decide +kernel
theorem dX1_noteEvent_45 : decode cX1_noteEvent 45 = .ok (.aload_n 0, 1) := by decide +kernel
theorem dX1_noteEvent_46 : decode cX1_noteEvent 46 = .ok (.getfield 35, 3) := by decide +kernel
theorem dX1_noteEvent_49 : decode cX1_noteEvent 49 = .ok (.iload 4, 2) := by decide +kernel
theorem dX1_noteEvent_51 : decode cX1_noteEvent 51 = .ok (.iconst 3, 1) := by decide +kernel
theorem dX1_noteEvent_52 : decode cX1_noteEvent 52 = .ok (.iload_n 3, 1) := by decide +kernel
theorem dX1_noteEvent_53 : decode cX1_noteEvent 53 = .ok (.invokevirtual 223, 3) := by decide +kernel
theorem dX1_noteEvent_56 : decode cX1_noteEvent 56 = .ok (.aload_n 0, 1) := by decide +kernel
theorem dX1_noteEvent_57 : decode cX1_noteEvent 57 = .ok (.dup, 1) := by decide +kernel
theorem dX1_noteEvent_58 : decode cX1_noteEvent 58 = .ok (.getfield 91, 3) := by decide +kernel
theorem dX1_noteEvent_61 : decode cX1_noteEvent 61 = .ok (.iconst 1, 1) := by decide +kernel
theorem dX1_noteEvent_62 : decode cX1_noteEvent 62 = .ok (.iadd, 1) := by decide +kernel
theorem dX1_noteEvent_63 : decode cX1_noteEvent 63 = .ok (.putfield 91, 3) := by decide +kernel
theorem dX1_noteEvent_66 : decode cX1_noteEvent 66 = .ok (.return_, 1) := by decide +kernel
theorem dX1_addService_0 : decode cX1_addService 0 = .ok (.aload_n 0, 1) := by decide +kernel
theorem dX1_addService_1 : decode cX1_addService 1 = .ok (.getfield 23, 3) := by decide +kernel
theorem dX1_addService_4 : decode cX1_addService 4 = .ok (.invokevirtual 65, 3) := by decide +kernel
theorem dX1_addService_7 : decode cX1_addService 7 = .ok (.istore 6, 2) := by decide +kernel
theorem dX1_addService_9 : decode cX1_addService 9 = .ok (.aload_n 0, 1) := by decide +kernel
theorem dX1_addService_10 : decode cX1_addService 10 = .ok (.getfield 23, 3) := by decide +kernel
theorem dX1_addService_13 : decode cX1_addService 13 = .ok (.iload 6, 2) := by decide +kernel
theorem dX1_addService_15 : decode cX1_addService 15 = .ok (.iconst 0, 1) := by decide +kernel
theorem dX1_addService_16 : decode cX1_addService 16 = .ok (.iload_n 1, 1) := by decide +kernel
theorem dX1_addService_17 : decode cX1_addService 17 = .ok (.invokevirtual 223, 3) := by decide +kernel
theorem dX1_addService_20 : decode cX1_addService 20 = .ok (.aload_n 0, 1) := by decide +kernel
theorem dX1_addService_21 : decode cX1_addService 21 = .ok (.getfield 23, 3) := by decide +kernel
theorem dX1_addService_24 : decode cX1_addService 24 = .ok (.iload 6, 2) := by decide +kernel
theorem dX1_addService_26 : decode cX1_addService 26 = .ok (.iconst 1, 1) := by decide +kernel
theorem dX1_addService_27 : decode cX1_addService 27 = .ok (.iload_n 2, 1) := by decide +kernel
theorem dX1_addService_28 : decode cX1_addService 28 = .ok (.invokevirtual 223, 3) := by decide +kernel
theorem dX1_addService_31 : decode cX1_addService 31 = .ok (.aload_n 0, 1) := by decide +kernel
theorem dX1_addService_32 : decode cX1_addService 32 = .ok (.getfield 23, 3) := by decide +kernel
theorem dX1_addService_35 : decode cX1_addService 35 = .ok (.iload 6, 2) := by decide +kernel
theorem dX1_addService_37 : decode cX1_addService 37 = .ok (.iconst 5, 1) := by decide +kernel
theorem dX1_addService_38 : decode cX1_addService 38 = .ok (.iload_n 3, 1) := by decide +kernel
theorem dX1_addService_39 : decode cX1_addService 39 = .ok (.invokevirtual 223, 3) := by decide +kernel
theorem dX1_addService_42 : decode cX1_addService 42 = .ok (.aload_n 0, 1) := by decide +kernel
theorem dX1_addService_43 : decode cX1_addService 43 = .ok (.getfield 23, 3) := by decide +kernel
theorem dX1_addService_46 : decode cX1_addService 46 = .ok (.iload 6, 2) := by decide +kernel
theorem dX1_addService_48 : decode cX1_addService 48 = .ok (.iconst 3, 1) := by decide +kernel
theorem dX1_addService_49 : decode cX1_addService 49 = .ok (.iload 4, 2) := by decide +kernel
theorem dX1_addService_51 : decode cX1_addService 51 = .ok (.invokevirtual 223, 3) := by decide +kernel
theorem dX1_addService_54 : decode cX1_addService 54 = .ok (.aload_n 0, 1) := by decide +kernel
theorem dX1_addService_55 : decode cX1_addService 55 = .ok (.getfield 23, 3) := by decide +kernel
theorem dX1_addService_58 : decode cX1_addService 58 = .ok (.iload 6, 2) := by decide +kernel
theorem dX1_addService_60 : decode cX1_addService 60 = .ok (.iconst 4, 1) := by decide +kernel
theorem dX1_addService_61 : decode cX1_addService 61 = .ok (.iload 5, 2) := by decide +kernel
theorem dX1_addService_63 : decode cX1_addService 63 = .ok (.invokevirtual 223, 3) := by decide +kernel
theorem dX1_addService_66 : decode cX1_addService 66 = .ok (.aload_n 0, 1) := by decide +kernel
theorem dX1_addService_67 : decode cX1_addService 67 = .ok (.iload 6, 2) := by decide +kernel
theorem dX1_addService_69 : decode cX1_addService 69 = .ok (.aload_n 0, 1) := by decide +kernel
theorem dX1_addService_70 : decode cX1_addService 70 = .ok (.iload_n 1, 1) := by decide +kernel
theorem dX1_addService_71 : decode cX1_addService 71 = .ok (.invokevirtual 114, 3) := by decide +kernel
theorem dX1_addService_74 : decode cX1_addService 74 = .ok (.ifCond .eq 10, 3) := by decide +kernel
theorem dX1_addService_77 : decode cX1_addService 77 = .ok (.aload_n 0, 1) := by decide +kernel
theorem dX1_addService_78 : decode cX1_addService 78 = .ok (.getfield 74, 3) := by decide +kernel
theorem dX1_addService_81 : decode cX1_addService 81 = .ok (.goto 4, 3) := by decide +kernel
theorem dX1_addService_85 : decode cX1_addService 85 = .ok (.invokevirtual 285, 3) := by decide +kernel
theorem dX1_addService_88 : decode cX1_addService 88 = .ok (.iload 6, 2) := by decide +kernel
theorem dX1_addService_90 : decode cX1_addService 90 = .ok (.ireturn, 1) := by decide +kernel
theorem dX1_withdrawService_0 : decode cX1_withdrawService 0 = .ok (.aload_n 0, 1) := by decide +kernel
theorem dX1_withdrawService_1 : decode cX1_withdrawService 1 = .ok (.iload_n 1, 1) := by decide +kernel
theorem dX1_withdrawService_2 : decode cX1_withdrawService 2 = .ok (.invokevirtual 154, 3) := by decide +kernel
theorem dX1_withdrawService_5 : decode cX1_withdrawService 5 = .ok (.ifCond .eq 25, 3) := by decide +kernel
theorem dX1_withdrawService_8 : decode cX1_withdrawService 8 = .ok (.aload_n 0, 1) := by decide +kernel
theorem dX1_withdrawService_9 : decode cX1_withdrawService 9 = .ok (.aload_n 0, 1) := by decide +kernel
theorem dX1_withdrawService_10 : decode cX1_withdrawService 10 = .ok (.getfield 23, 3) := by decide +kernel
theorem dX1_withdrawService_13 : decode cX1_withdrawService 13 = .ok (.iload_n 1, 1) := by decide +kernel
theorem dX1_withdrawService_14 : decode cX1_withdrawService 14 = .ok (.iconst 0, 1) := by decide +kernel
theorem dX1_withdrawService_15 : decode cX1_withdrawService 15 = .ok (.invokevirtual 104, 3) := by decide +kernel
theorem dX1_withdrawService_18 : decode cX1_withdrawService 18 = .ok (.invokevirtual 114, 3) := by decide +kernel
theorem dX1_withdrawService_21 : decode cX1_withdrawService 21 = .ok (.ifCond .eq 9, 3) := by decide +kernel
theorem dX1_withdrawService_24 : decode cX1_withdrawService 24 = .ok (.aload_n 0, 1) := by decide +kernel
theorem dX1_withdrawService_25 : decode cX1_withdrawService 25 = .ok (.iload_n 1, 1) := by decide +kernel
theorem dX1_withdrawService_26 : decode cX1_withdrawService 26 = .ok (.iconst 3, 1) := by decide +kernel
theorem dX1_withdrawService_27 : decode cX1_withdrawService 27 = .ok (.invokevirtual 276, 3) := by decide +kernel
theorem dX1_withdrawService_30 : decode cX1_withdrawService 30 = .ok (.aload_n 0, 1) := by decide +kernel
theorem dX1_withdrawService_31 : decode cX1_withdrawService 31 = .ok (.getfield 23, 3) := by decide +kernel
theorem dX1_withdrawService_34 : decode cX1_withdrawService 34 = .ok (.iload_n 1, 1) := by decide +kernel
theorem dX1_withdrawService_35 : decode cX1_withdrawService 35 = .ok (.bipush 6, 2) := by decide +kernel
theorem dX1_withdrawService_37 : decode cX1_withdrawService 37 = .ok (.iconst 3, 1) := by decide +kernel
theorem dX1_withdrawService_38 : decode cX1_withdrawService 38 = .ok (.invokevirtual 223, 3) := by decide +kernel
theorem dX1_withdrawService_41 : decode cX1_withdrawService 41 = .ok (.aload_n 0, 1) := by decide +kernel
theorem dX1_withdrawService_42 : decode cX1_withdrawService 42 = .ok (.getfield 23, 3) := by decide +kernel
theorem dX1_withdrawService_45 : decode cX1_withdrawService 45 = .ok (.iload_n 1, 1) := by decide +kernel
theorem dX1_withdrawService_46 : decode cX1_withdrawService 46 = .ok (.bipush 8, 2) := by decide +kernel
theorem dX1_withdrawService_48 : decode cX1_withdrawService 48 = .ok (.iconst (-1), 1) := by decide +kernel
theorem dX1_withdrawService_49 : decode cX1_withdrawService 49 = .ok (.invokevirtual 223, 3) := by decide +kernel
theorem dX1_withdrawService_52 : decode cX1_withdrawService 52 = .ok (.return_, 1) := by decide +kernel
theorem dX1_changePort_0 : decode cX1_changePort 0 = .ok (.aload_n 0, 1) := by decide +kernel
theorem dX1_changePort_1 : decode cX1_changePort 1 = .ok (.getfield 23, 3) := by decide +kernel
theorem dX1_changePort_4 : decode cX1_changePort 4 = .ok (.iload_n 1, 1) := by decide +kernel
theorem dX1_changePort_5 : decode cX1_changePort 5 = .ok (.iconst 3, 1) := by decide +kernel
theorem dX1_changePort_6 : decode cX1_changePort 6 = .ok (.iload_n 2, 1) := by decide +kernel
theorem dX1_changePort_7 : decode cX1_changePort 7 = .ok (.invokevirtual 223, 3) := by decide +kernel
theorem dX1_changePort_10 : decode cX1_changePort 10 = .ok (.aload_n 0, 1) := by decide +kernel
theorem dX1_changePort_11 : decode cX1_changePort 11 = .ok (.iload_n 1, 1) := by decide +kernel
theorem dX1_changePort_12 : decode cX1_changePort 12 = .ok (.invokevirtual 154, 3) := by decide +kernel
theorem dX1_changePort_15 : decode cX1_changePort 15 = .ok (.ifCond .eq 24, 3) := by decide +kernel
theorem dX1_changePort_18 : decode cX1_changePort 18 = .ok (.aload_n 0, 1) := by decide +kernel
theorem dX1_changePort_19 : decode cX1_changePort 19 = .ok (.aload_n 0, 1) := by decide +kernel
theorem dX1_changePort_20 : decode cX1_changePort 20 = .ok (.getfield 23, 3) := by decide +kernel
theorem dX1_changePort_23 : decode cX1_changePort 23 = .ok (.iload_n 1, 1) := by decide +kernel
theorem dX1_changePort_24 : decode cX1_changePort 24 = .ok (.iconst 0, 1) := by decide +kernel
theorem dX1_changePort_25 : decode cX1_changePort 25 = .ok (.invokevirtual 104, 3) := by decide +kernel
theorem dX1_changePort_28 : decode cX1_changePort 28 = .ok (.invokevirtual 114, 3) := by decide +kernel
theorem dX1_changePort_31 : decode cX1_changePort 31 = .ok (.ifCond .eq 8, 3) := by decide +kernel
theorem dX1_changePort_34 : decode cX1_changePort 34 = .ok (.aload_n 0, 1) := by decide +kernel
theorem dX1_changePort_35 : decode cX1_changePort 35 = .ok (.iload_n 1, 1) := by decide +kernel
theorem dX1_changePort_36 : decode cX1_changePort 36 = .ok (.invokevirtual 311, 3) := by decide +kernel
theorem dX1_changePort_39 : decode cX1_changePort 39 = .ok (.return_, 1) := by decide +kernel
theorem dX1_switchOff_0 : decode cX1_switchOff 0 = .ok (.iconst 0, 1) := by decide +kernel
theorem dX1_switchOff_1 : decode cX1_switchOff 1 = .ok (.istore_n 3, 1) := by decide +kernel
theorem dX1_switchOff_2 : decode cX1_switchOff 2 = .ok (.iload_n 3, 1) := by decide +kernel
theorem dX1_switchOff_3 : decode cX1_switchOff 3 = .ok (.aload_n 0, 1) := by decide +kernel
theorem dX1_switchOff_4 : decode cX1_switchOff 4 = .ok (.getfield 23, 3) := by decide +kernel
theorem dX1_switchOff_7 : decode cX1_switchOff 7 = .ok (.invokevirtual 111, 3) := by decide +kernel
theorem dX1_switchOff_10 : decode cX1_switchOff 10 = .ok (.if_icmp .ge 51, 3) := by decide +kernel
theorem dX1_switchOff_13 : decode cX1_switchOff 13 = .ok (.aload_n 0, 1) := by decide +kernel
theorem dX1_switchOff_14 : decode cX1_switchOff 14 = .ok (.getfield 23, 3) := by decide +kernel
theorem dX1_switchOff_17 : decode cX1_switchOff 17 = .ok (.iload_n 3, 1) := by decide +kernel
theorem dX1_switchOff_18 : decode cX1_switchOff 18 = .ok (.iconst 0, 1) := by decide +kernel
theorem dX1_switchOff_19 : decode cX1_switchOff 19 = .ok (.invokevirtual 104, 3) := by decide +kernel
theorem dX1_switchOff_22 : decode cX1_switchOff 22 = .ok (.iload_n 1, 1) := by decide +kernel
theorem dX1_switchOff_23 : decode cX1_switchOff 23 = .ok (.if_icmp .ne 32, 3) := by decide +kernel
theorem dX1_switchOff_26 : decode cX1_switchOff 26 = .ok (.iload_n 2, 1) := by decide +kernel
theorem dX1_switchOff_27 : decode cX1_switchOff 27 = .ok (.ifCond .eq 17, 3) := by decide +kernel
theorem dX1_switchOff_30 : decode cX1_switchOff 30 = .ok (.aload_n 0, 1) := by decide +kernel
theorem dX1_switchOff_31 : decode cX1_switchOff 31 = .ok (.iload_n 3, 1) := by decide +kernel
theorem dX1_switchOff_32 : decode cX1_switchOff 32 = .ok (.invokevirtual 154, 3) := by decide +kernel
theorem dX1_switchOff_35 : decode cX1_switchOff 35 = .ok (.ifCond .eq 9, 3) := by decide +kernel
theorem dX1_switchOff_38 : decode cX1_switchOff 38 = .ok (.aload_n 0, 1) := by decide +kernel
theorem dX1_switchOff_39 : decode cX1_switchOff 39 = .ok (.iload_n 3, 1) := by decide +kernel
theorem dX1_switchOff_40 : decode cX1_switchOff 40 = .ok (.iconst 3, 1) := by decide +kernel
theorem dX1_switchOff_41 : decode cX1_switchOff 41 = .ok (.invokevirtual 276, 3) := by decide +kernel
theorem dX1_switchOff_44 : decode cX1_switchOff 44 = .ok (.aload_n 0, 1) := by decide +kernel
theorem dX1_switchOff_45 : decode cX1_switchOff 45 = .ok (.getfield 23, 3) := by decide +kernel
theorem dX1_switchOff_48 : decode cX1_switchOff 48 = .ok (.iload_n 3, 1) := by decide +kernel
theorem dX1_switchOff_49 : decode cX1_switchOff 49 = .ok (.bipush 8, 2) := by decide +kernel
theorem dX1_switchOff_51 : decode cX1_switchOff 51 = .ok (.iconst (-1), 1) := by decide +kernel
theorem dX1_switchOff_52 : decode cX1_switchOff 52 = .ok (.invokevirtual 223, 3) := by decide +kernel
theorem dX1_switchOff_55 : decode cX1_switchOff 55 = .ok (.iinc 3 1, 3) := by decide +kernel
theorem dX1_switchOff_58 : decode cX1_switchOff 58 = .ok (.goto (-56), 3) := by decide +kernel
theorem dX1_switchOff_61 : decode cX1_switchOff 61 = .ok (.aload_n 0, 1) := by decide +kernel
theorem dX1_switchOff_62 : decode cX1_switchOff 62 = .ok (.iload_n 1, 1) := by decide +kernel
theorem dX1_switchOff_63 : decode cX1_switchOff 63 = .ok (.invokevirtual 70, 3) := by decide +kernel
theorem dX1_switchOff_66 : decode cX1_switchOff 66 = .ok (.invokevirtual 62, 3) := by decide +kernel
theorem dX1_switchOff_69 : decode cX1_switchOff 69 = .ok (.iconst 0, 1) := by decide +kernel
theorem dX1_switchOff_70 : decode cX1_switchOff 70 = .ok (.istore_n 3, 1) := by decide +kernel
theorem dX1_switchOff_71 : decode cX1_switchOff 71 = .ok (.iload_n 3, 1) := by decide +kernel
theorem dX1_switchOff_72 : decode cX1_switchOff 72 = .ok (.aload_n 0, 1) := by decide +kernel
theorem dX1_switchOff_73 : decode cX1_switchOff 73 = .ok (.getfield 20, 3) := by decide +kernel
theorem dX1_switchOff_76 : decode cX1_switchOff 76 = .ok (.invokevirtual 111, 3) := by decide +kernel
theorem dX1_switchOff_79 : decode cX1_switchOff 79 = .ok (.if_icmp .ge 15, 3) := by decide +kernel
theorem dX1_switchOff_82 : decode cX1_switchOff 82 = .ok (.aload_n 0, 1) := by decide +kernel
theorem dX1_switchOff_83 : decode cX1_switchOff 83 = .ok (.iload_n 1, 1) := by decide +kernel
theorem dX1_switchOff_84 : decode cX1_switchOff 84 = .ok (.iload_n 3, 1) := by decide +kernel
theorem dX1_switchOff_85 : decode cX1_switchOff 85 = .ok (.invokevirtual 335, 3) := by decide +kernel
theorem dX1_switchOff_88 : decode cX1_switchOff 88 = .ok (.iinc 3 1, 3) := by decide +kernel
theorem dX1_switchOff_91 : decode cX1_switchOff 91 = .ok (.goto (-20), 3) := by decide +kernel
theorem dX1_switchOff_94 : decode cX1_switchOff 94 = .ok (.aload_n 0, 1) := by decide +kernel
theorem dX1_switchOff_95 : decode cX1_switchOff 95 = .ok (.getfield 14, 3) := by decide +kernel
theorem dX1_switchOff_98 : decode cX1_switchOff 98 = .ok (.iload_n 1, 1) := by decide +kernel
theorem dX1_switchOff_99 : decode cX1_switchOff 99 = .ok (.iconst 1, 1) := by decide +kernel
theorem dX1_switchOff_100 : decode cX1_switchOff 100 = .ok (.iconst 1, 1) := by decide +kernel
theorem dX1_switchOff_101 : decode cX1_switchOff 101 = .ok (.invokevirtual 223, 3) := by decide +kernel
theorem dX1_switchOff_104 : decode cX1_switchOff 104 = .ok (.return_, 1) := by decide +kernel
theorem dX1_beginToBrowse_0 : decode cX1_beginToBrowse 0 = .ok (.iload_n 1, 1) := by decide +kernel
theorem dX1_beginToBrowse_1 : decode cX1_beginToBrowse 1 = .ok (.iload_n 2, 1) := by decide +kernel
theorem dX1_beginToBrowse_2 : decode cX1_beginToBrowse 2 = .ok (.invokestatic 108, 3) := by decide +kernel
theorem dX1_beginToBrowse_5 : decode cX1_beginToBrowse 5 = .ok (.istore_n 3, 1) := by decide +kernel
theorem dX1_beginToBrowse_6 : decode cX1_beginToBrowse 6 = .ok (.aload_n 0, 1) := by decide +kernel
theorem dX1_beginToBrowse_7 : decode cX1_beginToBrowse 7 = .ok (.getfield 26, 3) := by decide +kernel
theorem dX1_beginToBrowse_10 : decode cX1_beginToBrowse 10 = .ok (.iload_n 3, 1) := by decide +kernel
theorem dX1_beginToBrowse_11 : decode cX1_beginToBrowse 11 = .ok (.iconst 0, 1) := by decide +kernel
theorem dX1_beginToBrowse_12 : decode cX1_beginToBrowse 12 = .ok (.aload_n 0, 1) := by decide +kernel
theorem dX1_beginToBrowse_13 : decode cX1_beginToBrowse 13 = .ok (.getfield 74, 3) := by decide +kernel
theorem dX1_beginToBrowse_16 : decode cX1_beginToBrowse 16 = .ok (.invokevirtual 223, 3) := by decide +kernel
theorem dX1_beginToBrowse_19 : decode cX1_beginToBrowse 19 = .ok (.aload_n 0, 1) := by decide +kernel
theorem dX1_beginToBrowse_20 : decode cX1_beginToBrowse 20 = .ok (.getfield 26, 3) := by decide +kernel
theorem dX1_beginToBrowse_23 : decode cX1_beginToBrowse 23 = .ok (.iload_n 3, 1) := by decide +kernel
theorem dX1_beginToBrowse_24 : decode cX1_beginToBrowse 24 = .ok (.iconst 1, 1) := by decide +kernel
theorem dX1_beginToBrowse_25 : decode cX1_beginToBrowse 25 = .ok (.iconst 2, 1) := by decide +kernel
theorem dX1_beginToBrowse_26 : decode cX1_beginToBrowse 26 = .ok (.invokevirtual 223, 3) := by decide +kernel
theorem dX1_beginToBrowse_29 : decode cX1_beginToBrowse 29 = .ok (.aload_n 0, 1) := by decide +kernel
theorem dX1_beginToBrowse_30 : decode cX1_beginToBrowse 30 = .ok (.getfield 26, 3) := by decide +kernel
theorem dX1_beginToBrowse_33 : decode cX1_beginToBrowse 33 = .ok (.iload_n 3, 1) := by decide +kernel
theorem dX1_beginToBrowse_34 : decode cX1_beginToBrowse 34 = .ok (.iconst 2, 1) := by decide +kernel
theorem dX1_beginToBrowse_35 : decode cX1_beginToBrowse 35 = .ok (.iconst 0, 1) := by decide +kernel
theorem dX1_beginToBrowse_36 : decode cX1_beginToBrowse 36 = .ok (.invokevirtual 223, 3) := by decide +kernel
theorem dX1_beginToBrowse_39 : decode cX1_beginToBrowse 39 = .ok (.aload_n 0, 1) := by decide +kernel
theorem dX1_beginToBrowse_40 : decode cX1_beginToBrowse 40 = .ok (.getfield 26, 3) := by decide +kernel
theorem dX1_beginToBrowse_43 : decode cX1_beginToBrowse 43 = .ok (.iload_n 3, 1) := by decide +kernel
theorem dX1_beginToBrowse_44 : decode cX1_beginToBrowse 44 = .ok (.iconst 3, 1) := by decide +kernel
theorem dX1_beginToBrowse_45 : decode cX1_beginToBrowse 45 = .ok (.iconst 0, 1) := by decide +kernel
theorem dX1_beginToBrowse_46 : decode cX1_beginToBrowse 46 = .ok (.invokevirtual 223, 3) := by decide +kernel
theorem dX1_beginToBrowse_49 : decode cX1_beginToBrowse 49 = .ok (.aload_n 0, 1) := by decide +kernel
theorem dX1_beginToBrowse_50 : decode cX1_beginToBrowse 50 = .ok (.getfield 26, 3) := by decide +kernel
theorem dX1_beginToBrowse_53 : decode cX1_beginToBrowse 53 = .ok (.iload_n 3, 1) := by decide +kernel
theorem dX1_beginToBrowse_54 : decode cX1_beginToBrowse 54 = .ok (.iconst 4, 1) := by decide +kernel
theorem dX1_beginToBrowse_55 : decode cX1_beginToBrowse 55 = .ok (.iconst 1, 1) := by decide +kernel
theorem dX1_beginToBrowse_56 : decode cX1_beginToBrowse 56 = .ok (.invokevirtual 223, 3) := by decide +kernel
theorem dX1_beginToBrowse_59 : decode cX1_beginToBrowse 59 = .ok (.return_, 1) := by decide +kernel
theorem dX1_endBrowsing_0 : decode cX1_endBrowsing 0 = .ok (.aload_n 0, 1) := by decide +kernel
theorem dX1_endBrowsing_1 : decode cX1_endBrowsing 1 = .ok (.getfield 26, 3) := by decide +kernel
theorem dX1_endBrowsing_4 : decode cX1_endBrowsing 4 = .ok (.iload_n 1, 1) := by decide +kernel
theorem dX1_endBrowsing_5 : decode cX1_endBrowsing 5 = .ok (.iload_n 2, 1) := by decide +kernel
theorem dX1_endBrowsing_6 : decode cX1_endBrowsing 6 = .ok (.invokestatic 108, 3) := by decide +kernel
theorem dX1_endBrowsing_9 : decode cX1_endBrowsing 9 = .ok (.iconst 4, 1) := by decide +kernel
theorem dX1_endBrowsing_10 : decode cX1_endBrowsing 10 = .ok (.iconst 0, 1) := by decide +kernel
theorem dX1_endBrowsing_11 : decode cX1_endBrowsing 11 = .ok (.invokevirtual 223, 3) := by decide +kernel
theorem dX1_endBrowsing_14 : decode cX1_endBrowsing 14 = .ok (.return_, 1) := by decide +kernel
theorem dX1_addMark_0 : decode cX1_addMark 0 = .ok (.aload_n 0, 1) := by decide +kernel
theorem dX1_addMark_1 : decode cX1_addMark 1 = .ok (.getfield 32, 3) := by decide +kernel
theorem dX1_addMark_4 : decode cX1_addMark 4 = .ok (.aload_n 0, 1) := by decide +kernel
theorem dX1_addMark_5 : decode cX1_addMark 5 = .ok (.getfield 32, 3) := by decide +kernel
theorem dX1_addMark_8 : decode cX1_addMark 8 = .ok (.invokevirtual 65, 3) := by decide +kernel
theorem dX1_addMark_11 : decode cX1_addMark 11 = .ok (.iconst 0, 1) := by decide +kernel
theorem dX1_addMark_12 : decode cX1_addMark 12 = .ok (.iload_n 1, 1) := by decide +kernel
theorem dX1_addMark_13 : decode cX1_addMark 13 = .ok (.invokevirtual 223, 3) := by decide +kernel
theorem dX1_addMark_16 : decode cX1_addMark 16 = .ok (.return_, 1) := by decide +kernel
theorem dX2_init_0 : decode cX2_init 0 = .ok (.aload_n 0, 1) := by decide +kernel
theorem dX2_init_1 : decode cX2_init 1 = .ok (.invokespecial 3, 3) := by decide +kernel
theorem dX2_init_4 : decode cX2_init 4 = .ok (.aload_n 0, 1) := by decide +kernel
theorem dX2_init_5 : decode cX2_init 5 = .ok (.new 9, 3) := by decide +kernel
theorem dX2_init_8 : decode cX2_init 8 = .ok (.dup, 1) := by decide +kernel
theorem dX2_init_9 : decode cX2_init 9 = .ok (.bipush 27, 2) := by decide +kernel
theorem dX2_init_11 : decode cX2_init 11 = .ok (.bipush 32, 2) := by decide +kernel
theorem dX2_init_13 : decode cX2_init 13 = .ok (.ldc 13, 2) := by decide +kernel
theorem dX2_init_15 : decode cX2_init 15 = .ok (.invokespecial 14, 3) := by decide +kernel
theorem dX2_init_18 : decode cX2_init 18 = .ok (.putfield 17, 3) := by decide +kernel
theorem dX2_init_21 : decode cX2_init 21 = .ok (.aload_n 0, 1) := by decide +kernel
theorem dX2_init_22 : decode cX2_init 22 = .ok (.new 9, 3) := by decide +kernel
theorem dX2_init_25 : decode cX2_init 25 = .ok (.dup, 1) := by decide +kernel
theorem dX2_init_26 : decode cX2_init 26 = .ok (.iconst 1, 1) := by decide +kernel
theorem dX2_init_27 : decode cX2_init 27 = .ok (.bipush 32, 2) := by decide +kernel
theorem dX2_init_29 : decode cX2_init 29 = .ok (.ldc 21, 2) := by decide +kernel
theorem dX2_init_31 : decode cX2_init 31 = .ok (.invokespecial 14, 3) := by decide +kernel
theorem dX2_init_34 : decode cX2_init 34 = .ok (.putfield 22, 3) := by decide +kernel
theorem dX2_init_37 : decode cX2_init 37 = .ok (.aload_n 0, 1) := by decide +kernel
theorem dX2_init_38 : decode cX2_init 38 = .ok (.new 9, 3) := by decide +kernel
theorem dX2_init_41 : decode cX2_init 41 = .ok (.dup, 1) := by decide +kernel
theorem dX2_init_42 : decode cX2_init 42 = .ok (.iconst 2, 1) := by decide +kernel
theorem dX2_init_43 : decode cX2_init 43 = .ok (.bipush 64, 2) := by decide +kernel
theorem dX2_init_45 : decode cX2_init 45 = .ok (.ldc 21, 2) := by decide +kernel
theorem dX2_init_47 : decode cX2_init 47 = .ok (.invokespecial 14, 3) := by decide +kernel
theorem dX2_init_50 : decode cX2_init 50 = .ok (.putfield 25, 3) := by decide +kernel
theorem dX2_init_53 : decode cX2_init 53 = .ok (.aload_n 0, 1) := by decide +kernel
theorem dX2_init_54 : decode cX2_init 54 = .ok (.iconst 0, 1) := by decide +kernel
theorem dX2_init_55 : decode cX2_init 55 = .ok (.putfield 28, 3) := by decide +kernel
theorem dX2_init_58 : decode cX2_init 58 = .ok (.return_, 1) := by decide +kernel
theorem dX2_clear_0 : decode cX2_clear 0 = .ok (.aload_n 0, 1) := by decide +kernel
theorem dX2_clear_1 : decode cX2_clear 1 = .ok (.getfield 17, 3) := by decide +kernel
theorem dX2_clear_4 : decode cX2_clear 4 = .ok (.invokevirtual 32, 3) := by decide +kernel
theorem dX2_clear_7 : decode cX2_clear 7 = .ok (.aload_n 0, 1) := by decide +kernel
theorem dX2_clear_8 : decode cX2_clear 8 = .ok (.getfield 22, 3) := by decide +kernel
theorem dX2_clear_11 : decode cX2_clear 11 = .ok (.invokevirtual 32, 3) := by decide +kernel
theorem dX2_clear_14 : decode cX2_clear 14 = .ok (.aload_n 0, 1) := by decide +kernel
theorem dX2_clear_15 : decode cX2_clear 15 = .ok (.getfield 25, 3) := by decide +kernel
theorem dX2_clear_18 : decode cX2_clear 18 = .ok (.invokevirtual 32, 3) := by decide +kernel
theorem dX2_clear_21 : decode cX2_clear 21 = .ok (.aload_n 0, 1) := by decide +kernel
theorem dX2_clear_22 : decode cX2_clear 22 = .ok (.iconst 0, 1) := by decide +kernel
theorem dX2_clear_23 : decode cX2_clear 23 = .ok (.putfield 28, 3) := by decide +kernel
theorem dX2_clear_26 : decode cX2_clear 26 = .ok (.return_, 1) := by decide +kernel
theorem dX2_copyFrom_0 : decode cX2_copyFrom 0 = .ok (.aload_n 0, 1) := by decide +kernel
theorem dX2_copyFrom_1 : decode cX2_copyFrom 1 = .ok (.getfield 17, 3) := by decide +kernel
theorem dX2_copyFrom_4 : decode cX2_copyFrom 4 = .ok (.aload_n 1, 1) := by decide +kernel
theorem dX2_copyFrom_5 : decode cX2_copyFrom 5 = .ok (.getfield 17, 3) := by decide +kernel
theorem dX2_copyFrom_8 : decode cX2_copyFrom 8 = .ok (.invokevirtual 35, 3) := by decide +kernel
theorem dX2_copyFrom_11 : decode cX2_copyFrom 11 = .ok (.aload_n 0, 1) := by decide +kernel
theorem dX2_copyFrom_12 : decode cX2_copyFrom 12 = .ok (.getfield 22, 3) := by decide +kernel
theorem dX2_copyFrom_15 : decode cX2_copyFrom 15 = .ok (.aload_n 1, 1) := by decide +kernel
theorem dX2_copyFrom_16 : decode cX2_copyFrom 16 = .ok (.getfield 22, 3) := by decide +kernel
theorem dX2_copyFrom_19 : decode cX2_copyFrom 19 = .ok (.invokevirtual 35, 3) := by decide +kernel
theorem dX2_copyFrom_22 : decode cX2_copyFrom 22 = .ok (.aload_n 0, 1) := by decide +kernel
theorem dX2_copyFrom_23 : decode cX2_copyFrom 23 = .ok (.getfield 25, 3) := by decide +kernel
theorem dX2_copyFrom_26 : decode cX2_copyFrom 26 = .ok (.aload_n 1, 1) := by decide +kernel
theorem dX2_copyFrom_27 : decode cX2_copyFrom 27 = .ok (.getfield 25, 3) := by decide +kernel
theorem dX2_copyFrom_30 : decode cX2_copyFrom 30 = .ok (.invokevirtual 35, 3) := by decide +kernel
theorem dX2_copyFrom_33 : decode cX2_copyFrom 33 = .ok (.aload_n 0, 1) := by decide +kernel
theorem dX2_copyFrom_34 : decode cX2_copyFrom 34 = .ok (.aload_n 1, 1) := by decide +kernel
theorem dX2_copyFrom_35 : decode cX2_copyFrom 35 = .ok (.getfield 28, 3) := by decide +kernel
theorem dX2_copyFrom_38 : decode cX2_copyFrom 38 = .ok (.putfield 28, 3) := by decide +kernel
theorem dX2_copyFrom_41 : decode cX2_copyFrom 41 = .ok (.return_, 1) := by decide +kernel
theorem dX2_length_0 : decode cX2_length 0 = .ok (.aload_n 0, 1) := by decide +kernel
theorem dX2_length_1 : decode cX2_length 1 = .ok (.aload_n 0, 1) := by decide +kernel
theorem dX2_length_2 : decode cX2_length 2 = .ok (.getfield 25, 3) := by decide +kernel
theorem dX2_length_5 : decode cX2_length 5 = .ok (.iconst 0, 1) := by decide +kernel
theorem dX2_length_6 : decode cX2_length 6 = .ok (.aload_n 0, 1) := by decide +kernel
theorem dX2_length_7 : decode cX2_length 7 = .ok (.getfield 25, 3) := by decide +kernel
theorem dX2_length_10 : decode cX2_length 10 = .ok (.invokevirtual 39, 3) := by decide +kernel
theorem dX2_length_13 : decode cX2_length 13 = .ok (.invokevirtual 43, 3) := by decide +kernel
theorem dX2_length_16 : decode cX2_length 16 = .ok (.ireturn, 1) := by decide +kernel
theorem dX2_isRun_0 : decode cX2_isRun 0 = .ok (.aload_n 0, 1) := by decide +kernel
theorem dX2_isRun_1 : decode cX2_isRun 1 = .ok (.getfield 17, 3) := by decide +kernel
theorem dX2_isRun_4 : decode cX2_isRun 4 = .ok (.iload_n 1, 1) := by decide +kernel
theorem dX2_isRun_5 : decode cX2_isRun 5 = .ok (.bipush 11, 2) := by decide +kernel
theorem dX2_isRun_7 : decode cX2_isRun 7 = .ok (.invokevirtual 51, 3) := by decide +kernel
theorem dX2_isRun_10 : decode cX2_isRun 10 = .ok (.ifCond .le 7, 3) := by decide +kernel
theorem dX2_isRun_13 : decode cX2_isRun 13 = .ok (.iconst 1, 1) := by decide +kernel
theorem dX2_isRun_14 : decode cX2_isRun 14 = .ok (.goto 4, 3) := by decide +kernel
theorem dX2_isRun_17 : decode cX2_isRun 17 = .ok (.iconst 0, 1) := by decide +kernel
theorem dX2_isRun_18 : decode cX2_isRun 18 = .ok (.ireturn, 1) := by decide +kernel
theorem dX2_lengthBefore_0 : decode cX2_lengthBefore 0 = .ok (.lconst 0, 1) := by decide +kernel
theorem dX2_lengthBefore_1 : decode cX2_lengthBefore 1 = .ok (.lstore 4, 2) := by decide +kernel
theorem dX2_lengthBefore_3 : decode cX2_lengthBefore 3 = .ok (.iload_n 2, 1) := by decide +kernel
theorem dX2_lengthBefore_4 : decode cX2_lengthBefore 4 = .ok (.istore 6, 2) := by decide +kernel
theorem dX2_lengthBefore_6 : decode cX2_lengthBefore 6 = .ok (.iload 6, 2) := by decide +kernel
theorem dX2_lengthBefore_8 : decode cX2_lengthBefore 8 = .ok (.iload_n 3, 1) := by decide +kernel
theorem dX2_lengthBefore_9 : decode cX2_lengthBefore 9 = .ok (.if_icmp .ge 22, 3) := by decide +kernel
theorem dX2_lengthBefore_12 : decode cX2_lengthBefore 12 = .ok (.lload 4, 2) := by decide +kernel
theorem dX2_lengthBefore_14 : decode cX2_lengthBefore 14 = .ok (.aload_n 0, 1) := by decide +kernel
theorem dX2_lengthBefore_15 : decode cX2_lengthBefore 15 = .ok (.aload_n 1, 1) := by decide +kernel
theorem dX2_lengthBefore_16 : decode cX2_lengthBefore 16 = .ok (.iload 6, 2) := by decide +kernel
theorem dX2_lengthBefore_18 : decode cX2_lengthBefore 18 = .ok (.invokevirtual 63, 3) := by decide +kernel
theorem dX2_lengthBefore_21 : decode cX2_lengthBefore 21 = .ok (.i2l, 1) := by decide +kernel
theorem dX2_lengthBefore_22 : decode cX2_lengthBefore 22 = .ok (.ladd, 1) := by decide +kernel
theorem dX2_lengthBefore_23 : decode cX2_lengthBefore 23 = .ok (.lstore 4, 2) := by decide +kernel
theorem dX2_lengthBefore_25 : decode cX2_lengthBefore 25 = .ok (.iinc 6 1, 3) := by decide +kernel
theorem dX2_lengthBefore_28 : decode cX2_lengthBefore 28 = .ok (.goto (-22), 3) := by decide +kernel
theorem dX2_lengthBefore_31 : decode cX2_lengthBefore 31 = .ok (.lload 4, 2) := by decide +kernel
theorem dX2_lengthBefore_33 : decode cX2_lengthBefore 33 = .ok (.invokestatic 55, 3) := by decide +kernel
theorem dX2_lengthBefore_36 : decode cX2_lengthBefore 36 = .ok (.ireturn, 1) := by decide +kernel
theorem dX2_addItem_0 : decode cX2_addItem 0 = .ok (.aload_n 0, 1) := by decide +kernel
theorem dX2_addItem_1 : decode cX2_addItem 1 = .ok (.getfield 25, 3) := by decide +kernel
theorem dX2_addItem_4 : decode cX2_addItem 4 = .ok (.invokevirtual 67, 3) := by decide +kernel
theorem dX2_addItem_7 : decode cX2_addItem 7 = .ok (.istore_n 3, 1) := by decide +kernel
theorem dX2_addItem_8 : decode cX2_addItem 8 = .ok (.aload_n 0, 1) := by decide +kernel
theorem dX2_addItem_9 : decode cX2_addItem 9 = .ok (.getfield 25, 3) := by decide +kernel
theorem dX2_addItem_12 : decode cX2_addItem 12 = .ok (.iload_n 3, 1) := by decide +kernel
theorem dX2_addItem_13 : decode cX2_addItem 13 = .ok (.iconst 0, 1) := by decide +kernel
theorem dX2_addItem_14 : decode cX2_addItem 14 = .ok (.iload_n 1, 1) := by decide +kernel
theorem dX2_addItem_15 : decode cX2_addItem 15 = .ok (.invokevirtual 70, 3) := by decide +kernel
theorem dX2_addItem_18 : decode cX2_addItem 18 = .ok (.aload_n 0, 1) := by decide +kernel
theorem dX2_addItem_19 : decode cX2_addItem 19 = .ok (.getfield 25, 3) := by decide +kernel
theorem dX2_addItem_22 : decode cX2_addItem 22 = .ok (.iload_n 3, 1) := by decide +kernel
theorem dX2_addItem_23 : decode cX2_addItem 23 = .ok (.iconst 1, 1) := by decide +kernel
theorem dX2_addItem_24 : decode cX2_addItem 24 = .ok (.iload_n 2, 1) := by decide +kernel
theorem dX2_addItem_25 : decode cX2_addItem 25 = .ok (.invokevirtual 70, 3) := by decide +kernel
theorem dX2_addItem_28 : decode cX2_addItem 28 = .ok (.return_, 1) := by decide +kernel
theorem dX2_addMessage_0 : decode cX2_addMessage 0 = .ok (.aload_n 0, 1) := by decide +kernel
theorem dX2_addMessage_1 : decode cX2_addMessage 1 = .ok (.getfield 17, 3) := by decide +kernel
theorem dX2_addMessage_4 : decode cX2_addMessage 4 = .ok (.invokevirtual 67, 3) := by decide +kernel
theorem dX2_addMessage_7 : decode cX2_addMessage 7 = .ok (.istore_n 3, 1) := by decide +kernel
theorem dX2_addMessage_8 : decode cX2_addMessage 8 = .ok (.aload_n 0, 1) := by decide +kernel
theorem dX2_addMessage_9 : decode cX2_addMessage 9 = .ok (.getfield 17, 3) := by decide +kernel
theorem dX2_addMessage_12 : decode cX2_addMessage 12 = .ok (.iload_n 3, 1) := by decide +kernel
theorem dX2_addMessage_13 : decode cX2_addMessage 13 = .ok (.iconst 0, 1) := by decide +kernel
theorem dX2_addMessage_14 : decode cX2_addMessage 14 = .ok (.iload_n 2, 1) := by decide +kernel
theorem dX2_addMessage_15 : decode cX2_addMessage 15 = .ok (.invokevirtual 70, 3) := by decide +kernel
theorem dX2_addMessage_18 : decode cX2_addMessage 18 = .ok (.aload_n 0, 1) := by decide +kernel
theorem dX2_addMessage_19 : decode cX2_addMessage 19 = .ok (.getfield 17, 3) := by decide +kernel
theorem dX2_addMessage_22 : decode cX2_addMessage 22 = .ok (.iload_n 3, 1) := by decide +kernel
theorem dX2_addMessage_23 : decode cX2_addMessage 23 = .ok (.bipush 6, 2) := by decide +kernel
theorem dX2_addMessage_25 : decode cX2_addMessage 25 = .ok (.iload_n 1, 1) := by decide +kernel
theorem dX2_addMessage_26 : decode cX2_addMessage 26 = .ok (.invokevirtual 70, 3) := by decide +kernel
theorem dX2_addMessage_29 : decode cX2_addMessage 29 = .ok (.aload_n 0, 1) := by decide +kernel
theorem dX2_addMessage_30 : decode cX2_addMessage 30 = .ok (.getfield 17, 3) := by decide +kernel
theorem dX2_addMessage_33 : decode cX2_addMessage 33 = .ok (.iload_n 3, 1) := by decide +kernel
theorem dX2_addMessage_34 : decode cX2_addMessage 34 = .ok (.bipush 7, 2) := by decide +kernel
theorem dX2_addMessage_36 : decode cX2_addMessage 36 = .ok (.iconst (-1), 1) := by decide +kernel
theorem dX2_addMessage_37 : decode cX2_addMessage 37 = .ok (.invokevirtual 70, 3) := by decide +kernel
theorem dX2_addMessage_40 : decode cX2_addMessage 40 = .ok (.aload_n 0, 1) := by decide +kernel
theorem dX2_addMessage_41 : decode cX2_addMessage 41 = .ok (.getfield 17, 3) := by decide +kernel
theorem dX2_addMessage_44 : decode cX2_addMessage 44 = .ok (.iload_n 3, 1) := by decide +kernel
theorem dX2_addMessage_45 : decode cX2_addMessage 45 = .ok (.bipush 9, 2) := by decide +kernel
theorem dX2_addMessage_47 : decode cX2_addMessage 47 = .ok (.iconst 1, 1) := by decide +kernel
theorem dX2_addMessage_48 : decode cX2_addMessage 48 = .ok (.invokevirtual 70, 3) := by decide +kernel
theorem dX2_addMessage_51 : decode cX2_addMessage 51 = .ok (.aload_n 0, 1) := by decide +kernel
theorem dX2_addMessage_52 : decode cX2_addMessage 52 = .ok (.getfield 17, 3) := by decide +kernel
theorem dX2_addMessage_55 : decode cX2_addMessage 55 = .ok (.iload_n 3, 1) := by decide +kernel
theorem dX2_addMessage_56 : decode cX2_addMessage 56 = .ok (.bipush 12, 2) := by decide +kernel
theorem dX2_addMessage_58 : decode cX2_addMessage 58 = .ok (.iload_n 2, 1) := by decide +kernel
theorem dX2_addMessage_59 : decode cX2_addMessage 59 = .ok (.iadd, 1) := by decide +kernel
theorem dX2_addMessage_60 : decode cX2_addMessage 60 = .ok (.iconst 1, 1) := by decide +kernel
theorem dX2_addMessage_61 : decode cX2_addMessage 61 = .ok (.invokevirtual 70, 3) := by decide +kernel
theorem dX2_addMessage_64 : decode cX2_addMessage 64 = .ok (.aload_n 0, 1) := by decide +kernel
theorem dX2_addMessage_65 : decode cX2_addMessage 65 = .ok (.getfield 17, 3) := by decide +kernel
theorem dX2_addMessage_68 : decode cX2_addMessage 68 = .ok (.iload_n 3, 1) := by decide +kernel
theorem dX2_addMessage_69 : decode cX2_addMessage 69 = .ok (.bipush 18, 2) := by decide +kernel
theorem dX2_addMessage_71 : decode cX2_addMessage 71 = .ok (.iload_n 3, 1) := by decide +kernel
theorem dX2_addMessage_72 : decode cX2_addMessage 72 = .ok (.invokevirtual 70, 3) := by decide +kernel
theorem dX2_addMessage_75 : decode cX2_addMessage 75 = .ok (.iconst 1, 1) := by decide +kernel
theorem dX2_addMessage_76 : decode cX2_addMessage 76 = .ok (.istore 4, 2) := by decide +kernel
theorem dX2_addMessage_78 : decode cX2_addMessage 78 = .ok (.iload 4, 2) := by decide +kernel
theorem dX2_addMessage_80 : decode cX2_addMessage 80 = .ok (.bipush 6, 2) := by decide +kernel
theorem dX2_addMessage_82 : decode cX2_addMessage 82 = .ok (.if_icmp .ge 23, 3) := by decide +kernel
theorem dX2_addMessage_85 : decode cX2_addMessage 85 = .ok (.aload_n 0, 1) := by decide +kernel
theorem dX2_addMessage_86 : decode cX2_addMessage 86 = .ok (.getfield 17, 3) := by decide +kernel
theorem dX2_addMessage_89 : decode cX2_addMessage 89 = .ok (.iload_n 3, 1) := by decide +kernel
theorem dX2_addMessage_90 : decode cX2_addMessage 90 = .ok (.bipush 18, 2) := by decide +kernel
theorem dX2_addMessage_92 : decode cX2_addMessage 92 = .ok (.iload 4, 2) := by decide +kernel
theorem dX2_addMessage_94 : decode cX2_addMessage 94 = .ok (.iadd, 1) := by decide +kernel
theorem dX2_addMessage_95 : decode cX2_addMessage 95 = .ok (.iconst (-1), 1) := by decide +kernel
theorem dX2_addMessage_96 : decode cX2_addMessage 96 = .ok (.invokevirtual 70, 3) := by decide +kernel
theorem dX2_addMessage_99 : decode cX2_addMessage 99 = .ok (.iinc 4 1, 3) := by decide +kernel
theorem dX2_addMessage_102 : decode cX2_addMessage 102 = .ok (.goto (-24), 3) := by decide +kernel
theorem dX2_addMessage_105 : decode cX2_addMessage 105 = .ok (.iload_n 3, 1) := by decide +kernel
theorem dX2_addMessage_106 : decode cX2_addMessage 106 = .ok (.ireturn, 1) := by decide +kernel
theorem dX2_messageOf_0 : decode cX2_messageOf 0 = .ok (.iconst 0, 1) := by decide +kernel
theorem dX2_messageOf_1 : decode cX2_messageOf 1 = .ok (.istore 5, 2) := by decide +kernel
theorem dX2_messageOf_3 : decode cX2_messageOf 3 = .ok (.iload 5, 2) := by decide +kernel
theorem dX2_messageOf_5 : decode cX2_messageOf 5 = .ok (.aload_n 0, 1) := by decide +kernel
theorem dX2_messageOf_6 : decode cX2_messageOf 6 = .ok (.getfield 17, 3) := by decide +kernel
theorem dX2_messageOf_9 : decode cX2_messageOf 9 = .ok (.invokevirtual 39, 3) := by decide +kernel
theorem dX2_messageOf_12 : decode cX2_messageOf 12 = .ok (.if_icmp .ge 82, 3) := by decide +kernel
theorem dX2_messageOf_15 : decode cX2_messageOf 15 = .ok (.aload_n 0, 1) := by decide +kernel
theorem dX2_messageOf_16 : decode cX2_messageOf 16 = .ok (.getfield 17, 3) := by decide +kernel
theorem dX2_messageOf_19 : decode cX2_messageOf 19 = .ok (.iload 5, 2) := by decide +kernel
theorem dX2_messageOf_21 : decode cX2_messageOf 21 = .ok (.bipush 6, 2) := by decide +kernel
theorem dX2_messageOf_23 : decode cX2_messageOf 23 = .ok (.invokevirtual 51, 3) := by decide +kernel
theorem dX2_messageOf_26 : decode cX2_messageOf 26 = .ok (.iload_n 3, 1) := by decide +kernel
theorem dX2_messageOf_27 : decode cX2_messageOf 27 = .ok (.if_icmp .ne 22, 3) := by decide +kernel
theorem dX2_messageOf_30 : decode cX2_messageOf 30 = .ok (.aload_n 0, 1) := by decide +kernel
theorem dX2_messageOf_31 : decode cX2_messageOf 31 = .ok (.getfield 17, 3) := by decide +kernel
theorem dX2_messageOf_34 : decode cX2_messageOf 34 = .ok (.iload 5, 2) := by decide +kernel
theorem dX2_messageOf_36 : decode cX2_messageOf 36 = .ok (.iconst 4, 1) := by decide +kernel
theorem dX2_messageOf_37 : decode cX2_messageOf 37 = .ok (.invokevirtual 51, 3) := by decide +kernel
theorem dX2_messageOf_40 : decode cX2_messageOf 40 = .ok (.iload 4, 2) := by decide +kernel
theorem dX2_messageOf_42 : decode cX2_messageOf 42 = .ok (.if_icmp .ne 7, 3) := by decide +kernel
theorem dX2_messageOf_45 : decode cX2_messageOf 45 = .ok (.iconst 1, 1) := by decide +kernel
theorem dX2_messageOf_46 : decode cX2_messageOf 46 = .ok (.goto 4, 3) := by decide +kernel
theorem dX2_messageOf_49 : decode cX2_messageOf 49 = .ok (.iconst 0, 1) := by decide +kernel
theorem dX2_messageOf_50 : decode cX2_messageOf 50 = .ok (.istore 6, 2) := by decide +kernel
theorem dX2_messageOf_52 : decode cX2_messageOf 52 = .ok (.iload 6, 2) := by decide +kernel
theorem dX2_messageOf_54 : decode cX2_messageOf 54 = .ok (.ifCond .eq 34, 3) := by decide +kernel
theorem dX2_messageOf_57 : decode cX2_messageOf 57 = .ok (.aload_n 0, 1) := by decide +kernel
theorem dX2_messageOf_58 : decode cX2_messageOf 58 = .ok (.getfield 17, 3) := by decide +kernel
theorem dX2_messageOf_61 : decode cX2_messageOf 61 = .ok (.iload 5, 2) := by decide +kernel
theorem dX2_messageOf_63 : decode cX2_messageOf 63 = .ok (.aload_n 1, 1) := by decide +kernel
theorem dX2_messageOf_64 : decode cX2_messageOf 64 = .ok (.iload_n 2, 1) := by decide +kernel
theorem dX2_messageOf_65 : decode cX2_messageOf 65 = .ok (.invokevirtual 73, 3) := by decide +kernel
theorem dX2_messageOf_68 : decode cX2_messageOf 68 = .ok (.ifCond .eq 20, 3) := by decide +kernel
theorem dX2_messageOf_71 : decode cX2_messageOf 71 = .ok (.aload_n 0, 1) := by decide +kernel
theorem dX2_messageOf_72 : decode cX2_messageOf 72 = .ok (.getfield 17, 3) := by decide +kernel
theorem dX2_messageOf_75 : decode cX2_messageOf 75 = .ok (.iload 5, 2) := by decide +kernel
theorem dX2_messageOf_77 : decode cX2_messageOf 77 = .ok (.aload_n 1, 1) := by decide +kernel
theorem dX2_messageOf_78 : decode cX2_messageOf 78 = .ok (.iload_n 2, 1) := by decide +kernel
theorem dX2_messageOf_79 : decode cX2_messageOf 79 = .ok (.invokevirtual 77, 3) := by decide +kernel
theorem dX2_messageOf_82 : decode cX2_messageOf 82 = .ok (.ifCond .ne 6, 3) := by decide +kernel
theorem dX2_messageOf_85 : decode cX2_messageOf 85 = .ok (.iload 5, 2) := by decide +kernel
theorem dX2_messageOf_87 : decode cX2_messageOf 87 = .ok (.ireturn, 1) := by decide +kernel
theorem dX2_messageOf_88 : decode cX2_messageOf 88 = .ok (.iinc 5 1, 3) := by decide +kernel
theorem dX2_messageOf_91 : decode cX2_messageOf 91 = .ok (.goto (-88), 3) := by decide +kernel
theorem dX2_messageOf_94 : decode cX2_messageOf 94 = .ok (.aload_n 0, 1) := by decide +kernel
theorem dX2_messageOf_95 : decode cX2_messageOf 95 = .ok (.iload_n 3, 1) := by decide +kernel
theorem dX2_messageOf_96 : decode cX2_messageOf 96 = .ok (.aload_n 1, 1) := by decide +kernel
theorem dX2_messageOf_97 : decode cX2_messageOf 97 = .ok (.iload_n 2, 1) := by decide +kernel
theorem dX2_messageOf_98 : decode cX2_messageOf 98 = .ok (.iconst 0, 1) := by decide +kernel
theorem dX2_messageOf_99 : decode cX2_messageOf 99 = .ok (.invokevirtual 51, 3) := by decide +kernel
theorem dX2_messageOf_102 : decode cX2_messageOf 102 = .ok (.invokevirtual 81, 3) := by decide +kernel
theorem dX2_messageOf_105 : decode cX2_messageOf 105 = .ok (.istore 5, 2) := by decide +kernel
theorem dX2_messageOf_107 : decode cX2_messageOf 107 = .ok (.aload_n 0, 1) := by decide +kernel
theorem dX2_messageOf_108 : decode cX2_messageOf 108 = .ok (.getfield 17, 3) := by decide +kernel
theorem dX2_messageOf_111 : decode cX2_messageOf 111 = .ok (.iload 5, 2) := by decide +kernel
theorem dX2_messageOf_113 : decode cX2_messageOf 113 = .ok (.aload_n 1, 1) := by decide +kernel
theorem dX2_messageOf_114 : decode cX2_messageOf 114 = .ok (.iload_n 2, 1) := by decide +kernel
theorem dX2_messageOf_115 : decode cX2_messageOf 115 = .ok (.invokevirtual 84, 3) := by decide +kernel
theorem dX2_messageOf_118 : decode cX2_messageOf 118 = .ok (.aload_n 0, 1) := by decide +kernel
theorem dX2_messageOf_119 : decode cX2_messageOf 119 = .ok (.getfield 17, 3) := by decide +kernel
theorem dX2_messageOf_122 : decode cX2_messageOf 122 = .ok (.iload 5, 2) := by decide +kernel
theorem dX2_messageOf_124 : decode cX2_messageOf 124 = .ok (.iconst 4, 1) := by decide +kernel
theorem dX2_messageOf_125 : decode cX2_messageOf 125 = .ok (.iload 4, 2) := by decide +kernel
theorem dX2_messageOf_127 : decode cX2_messageOf 127 = .ok (.invokevirtual 70, 3) := by decide +kernel
theorem dX2_messageOf_130 : decode cX2_messageOf 130 = .ok (.iload 5, 2) := by decide +kernel
theorem dX2_messageOf_132 : decode cX2_messageOf 132 = .ok (.ireturn, 1) := by decide +kernel
theorem dX2_endRun_0 : decode cX2_endRun 0 = .ok (.aload_n 0, 1) := by decide +kernel
theorem dX2_endRun_1 : decode cX2_endRun 1 = .ok (.getfield 28, 3) := by decide +kernel
theorem dX2_endRun_4 : decode cX2_endRun 4 = .ok (.istore_n 1, 1) := by decide +kernel
theorem dX2_endRun_5 : decode cX2_endRun 5 = .ok (.aload_n 0, 1) := by decide +kernel
theorem dX2_endRun_6 : decode cX2_endRun 6 = .ok (.getfield 22, 3) := by decide +kernel
theorem dX2_endRun_9 : decode cX2_endRun 9 = .ok (.invokevirtual 39, 3) := by decide +kernel
theorem dX2_endRun_12 : decode cX2_endRun 12 = .ok (.iload_n 1, 1) := by decide +kernel
theorem dX2_endRun_13 : decode cX2_endRun 13 = .ok (.isub, 1) := by decide +kernel
theorem dX2_endRun_14 : decode cX2_endRun 14 = .ok (.istore_n 2, 1) := by decide +kernel
theorem dX2_endRun_15 : decode cX2_endRun 15 = .ok (.iload_n 2, 1) := by decide +kernel
theorem dX2_endRun_16 : decode cX2_endRun 16 = .ok (.iconst 2, 1) := by decide +kernel
theorem dX2_endRun_17 : decode cX2_endRun 17 = .ok (.if_icmp .ge 23, 3) := by decide +kernel
theorem dX2_endRun_20 : decode cX2_endRun 20 = .ok (.aload_n 0, 1) := by decide +kernel
theorem dX2_endRun_21 : decode cX2_endRun 21 = .ok (.getfield 22, 3) := by decide +kernel
theorem dX2_endRun_24 : decode cX2_endRun 24 = .ok (.iload_n 1, 1) := by decide +kernel
theorem dX2_endRun_25 : decode cX2_endRun 25 = .ok (.iconst 0, 1) := by decide +kernel
theorem dX2_endRun_26 : decode cX2_endRun 26 = .ok (.invokevirtual 51, 3) := by decide +kernel
theorem dX2_endRun_29 : decode cX2_endRun 29 = .ok (.istore_n 3, 1) := by decide +kernel
theorem dX2_endRun_30 : decode cX2_endRun 30 = .ok (.aload_n 0, 1) := by decide +kernel
theorem dX2_endRun_31 : decode cX2_endRun 31 = .ok (.getfield 22, 3) := by decide +kernel
theorem dX2_endRun_34 : decode cX2_endRun 34 = .ok (.iload_n 1, 1) := by decide +kernel
theorem dX2_endRun_35 : decode cX2_endRun 35 = .ok (.invokevirtual 88, 3) := by decide +kernel
theorem dX2_endRun_38 : decode cX2_endRun 38 = .ok (.iload_n 3, 1) := by decide +kernel
theorem dX2_endRun_39 : decode cX2_endRun 39 = .ok (.ireturn, 1) := by decide +kernel
theorem dX2_isToReply_0 : decode cX2_isToReply 0 = .ok (.aload_n 0, 1) := by decide +kernel
theorem dX2_isToReply_1 : decode cX2_isToReply 1 = .ok (.getfield 17, 3) := by decide +kernel
theorem dX2_isToReply_4 : decode cX2_isToReply 4 = .ok (.iload_n 1, 1) := by decide +kernel
theorem dX2_isToReply_5 : decode cX2_isToReply 5 = .ok (.bipush 24, 2) := by decide +kernel
theorem dX2_isToReply_7 : decode cX2_isToReply 7 = .ok (.invokevirtual 51, 3) := by decide +kernel
theorem dX2_isToReply_10 : decode cX2_isToReply 10 = .ok (.iload_n 2, 1) := by decide +kernel
theorem dX2_isToReply_11 : decode cX2_isToReply 11 = .ok (.if_icmp .ne 21, 3) := by decide +kernel
theorem dX2_isToReply_14 : decode cX2_isToReply 14 = .ok (.aload_n 0, 1) := by decide +kernel
theorem dX2_isToReply_15 : decode cX2_isToReply 15 = .ok (.getfield 17, 3) := by decide +kernel
theorem dX2_isToReply_18 : decode cX2_isToReply 18 = .ok (.iload_n 1, 1) := by decide +kernel
theorem dX2_isToReply_19 : decode cX2_isToReply 19 = .ok (.bipush 25, 2) := by decide +kernel
theorem dX2_isToReply_21 : decode cX2_isToReply 21 = .ok (.invokevirtual 51, 3) := by decide +kernel
theorem dX2_isToReply_24 : decode cX2_isToReply 24 = .ok (.iload_n 2, 1) := by decide +kernel
theorem dX2_isToReply_25 : decode cX2_isToReply 25 = .ok (.if_icmp .eq 7, 3) := by decide +kernel
theorem dX2_isToReply_28 : decode cX2_isToReply 28 = .ok (.iconst 1, 1) := by decide +kernel
theorem dX2_isToReply_29 : decode cX2_isToReply 29 = .ok (.goto 4, 3) := by decide +kernel
theorem dX2_isToReply_32 : decode cX2_isToReply 32 = .ok (.iconst 0, 1) := by decide +kernel
theorem dX2_isToReply_33 : decode cX2_isToReply 33 = .ok (.ireturn, 1) := by decide +kernel
theorem dX2_wantReply_0 : decode cX2_wantReply 0 = .ok (.aload_n 0, 1) := by decide +kernel
theorem dX2_wantReply_1 : decode cX2_wantReply 1 = .ok (.getfield 17, 3) := by decide +kernel
theorem dX2_wantReply_4 : decode cX2_wantReply 4 = .ok (.iload_n 1, 1) := by decide +kernel
theorem dX2_wantReply_5 : decode cX2_wantReply 5 = .ok (.bipush 24, 2) := by decide +kernel
theorem dX2_wantReply_7 : decode cX2_wantReply 7 = .ok (.iload_n 2, 1) := by decide +kernel
theorem dX2_wantReply_8 : decode cX2_wantReply 8 = .ok (.invokevirtual 70, 3) := by decide +kernel
theorem dX2_wantReply_11 : decode cX2_wantReply 11 = .ok (.iload_n 1, 1) := by decide +kernel
theorem dX2_wantReply_12 : decode cX2_wantReply 12 = .ok (.istore_n 3, 1) := by decide +kernel
theorem dX2_wantReply_13 : decode cX2_wantReply 13 = .ok (.iload_n 3, 1) := by decide +kernel
theorem dX2_wantReply_14 : decode cX2_wantReply 14 = .ok (.ifCond .lt 86, 3) := by decide +kernel
theorem dX2_wantReply_17 : decode cX2_wantReply 17 = .ok (.aload_n 0, 1) := by decide +kernel
theorem dX2_wantReply_18 : decode cX2_wantReply 18 = .ok (.getfield 17, 3) := by decide +kernel
theorem dX2_wantReply_21 : decode cX2_wantReply 21 = .ok (.iload_n 3, 1) := by decide +kernel
theorem dX2_wantReply_22 : decode cX2_wantReply 22 = .ok (.bipush 10, 2) := by decide +kernel
theorem dX2_wantReply_24 : decode cX2_wantReply 24 = .ok (.invokevirtual 51, 3) := by decide +kernel
theorem dX2_wantReply_27 : decode cX2_wantReply 27 = .ok (.istore 4, 2) := by decide +kernel
theorem dX2_wantReply_29 : decode cX2_wantReply 29 = .ok (.aload_n 0, 1) := by decide +kernel
theorem dX2_wantReply_30 : decode cX2_wantReply 30 = .ok (.iload_n 3, 1) := by decide +kernel
theorem dX2_wantReply_31 : decode cX2_wantReply 31 = .ok (.iload_n 2, 1) := by decide +kernel
theorem dX2_wantReply_32 : decode cX2_wantReply 32 = .ok (.invokevirtual 102, 3) := by decide +kernel
theorem dX2_wantReply_35 : decode cX2_wantReply 35 = .ok (.ifCond .eq 16, 3) := by decide +kernel
