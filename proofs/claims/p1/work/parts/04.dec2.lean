theorem dX2_wantReply_38 : decode cX2_wantReply 38 = .ok (.aload_n 0, 1) := by decide +kernel
theorem dX2_wantReply_39 : decode cX2_wantReply 39 = .ok (.getfield 17, 3) := by decide +kernel
theorem dX2_wantReply_42 : decode cX2_wantReply 42 = .ok (.iload_n 3, 1) := by decide +kernel
theorem dX2_wantReply_43 : decode cX2_wantReply 43 = .ok (.bipush 11, 2) := by decide +kernel
theorem dX2_wantReply_45 : decode cX2_wantReply 45 = .ok (.invokevirtual 51, 3) := by decide +kernel
theorem dX2_wantReply_48 : decode cX2_wantReply 48 = .ok (.goto 4, 3) := by decide +kernel
theorem dX2_wantReply_51 : decode cX2_wantReply 51 = .ok (.iconst 0, 1) := by decide +kernel
theorem dX2_wantReply_52 : decode cX2_wantReply 52 = .ok (.istore 5, 2) := by decide +kernel
theorem dX2_wantReply_54 : decode cX2_wantReply 54 = .ok (.iload 4, 2) := by decide +kernel
theorem dX2_wantReply_56 : decode cX2_wantReply 56 = .ok (.istore 6, 2) := by decide +kernel
theorem dX2_wantReply_58 : decode cX2_wantReply 58 = .ok (.iload 6, 2) := by decide +kernel
theorem dX2_wantReply_60 : decode cX2_wantReply 60 = .ok (.iload 4, 2) := by decide +kernel
theorem dX2_wantReply_62 : decode cX2_wantReply 62 = .ok (.iload 5, 2) := by decide +kernel
theorem dX2_wantReply_64 : decode cX2_wantReply 64 = .ok (.iadd, 1) := by decide +kernel
theorem dX2_wantReply_65 : decode cX2_wantReply 65 = .ok (.if_icmp .ge 29, 3) := by decide +kernel
theorem dX2_wantReply_68 : decode cX2_wantReply 68 = .ok (.aload_n 0, 1) := by decide +kernel
theorem dX2_wantReply_69 : decode cX2_wantReply 69 = .ok (.getfield 17, 3) := by decide +kernel
theorem dX2_wantReply_72 : decode cX2_wantReply 72 = .ok (.aload_n 0, 1) := by decide +kernel
theorem dX2_wantReply_73 : decode cX2_wantReply 73 = .ok (.getfield 22, 3) := by decide +kernel
theorem dX2_wantReply_76 : decode cX2_wantReply 76 = .ok (.iload 6, 2) := by decide +kernel
theorem dX2_wantReply_78 : decode cX2_wantReply 78 = .ok (.iconst 0, 1) := by decide +kernel
theorem dX2_wantReply_79 : decode cX2_wantReply 79 = .ok (.invokevirtual 51, 3) := by decide +kernel
theorem dX2_wantReply_82 : decode cX2_wantReply 82 = .ok (.bipush 24, 2) := by decide +kernel
theorem dX2_wantReply_84 : decode cX2_wantReply 84 = .ok (.iload_n 2, 1) := by decide +kernel
theorem dX2_wantReply_85 : decode cX2_wantReply 85 = .ok (.invokevirtual 70, 3) := by decide +kernel
theorem dX2_wantReply_88 : decode cX2_wantReply 88 = .ok (.iinc 6 1, 3) := by decide +kernel
theorem dX2_wantReply_91 : decode cX2_wantReply 91 = .ok (.goto (-33), 3) := by decide +kernel
theorem dX2_wantReply_94 : decode cX2_wantReply 94 = .ok (.iinc 3 (-1), 3) := by decide +kernel
theorem dX2_wantReply_97 : decode cX2_wantReply 97 = .ok (.goto (-84), 3) := by decide +kernel
theorem dX2_wantReply_100 : decode cX2_wantReply 100 = .ok (.return_, 1) := by decide +kernel
theorem dX2_putReply_0 : decode cX2_putReply 0 = .ok (.aload_n 0, 1) := by decide +kernel
theorem dX2_putReply_1 : decode cX2_putReply 1 = .ok (.getfield 17, 3) := by decide +kernel
theorem dX2_putReply_4 : decode cX2_putReply 4 = .ok (.iload_n 1, 1) := by decide +kernel
theorem dX2_putReply_5 : decode cX2_putReply 5 = .ok (.bipush 26, 2) := by decide +kernel
theorem dX2_putReply_7 : decode cX2_putReply 7 = .ok (.iload_n 2, 1) := by decide +kernel
theorem dX2_putReply_8 : decode cX2_putReply 8 = .ok (.invokevirtual 70, 3) := by decide +kernel
theorem dX2_putReply_11 : decode cX2_putReply 11 = .ok (.aload_n 0, 1) := by decide +kernel
theorem dX2_putReply_12 : decode cX2_putReply 12 = .ok (.getfield 17, 3) := by decide +kernel
theorem dX2_putReply_15 : decode cX2_putReply 15 = .ok (.iload_n 1, 1) := by decide +kernel
theorem dX2_putReply_16 : decode cX2_putReply 16 = .ok (.bipush 25, 2) := by decide +kernel
theorem dX2_putReply_18 : decode cX2_putReply 18 = .ok (.iload_n 3, 1) := by decide +kernel
theorem dX2_putReply_19 : decode cX2_putReply 19 = .ok (.invokevirtual 70, 3) := by decide +kernel
theorem dX2_putReply_22 : decode cX2_putReply 22 = .ok (.return_, 1) := by decide +kernel
theorem dX3_init_0 : decode cX3_init 0 = .ok (.aload_n 0, 1) := by decide +kernel
theorem dX3_init_1 : decode cX3_init 1 = .ok (.invokespecial 3, 3) := by decide +kernel
theorem dX3_init_4 : decode cX3_init 4 = .ok (.aload_n 0, 1) := by decide +kernel
theorem dX3_init_5 : decode cX3_init 5 = .ok (.aload_n 1, 1) := by decide +kernel
theorem dX3_init_6 : decode cX3_init 6 = .ok (.putfield 9, 3) := by decide +kernel
theorem dX3_init_9 : decode cX3_init 9 = .ok (.aload_n 0, 1) := by decide +kernel
theorem dX3_init_10 : decode cX3_init 10 = .ok (.aload_n 2, 1) := by decide +kernel
theorem dX3_init_11 : decode cX3_init 11 = .ok (.putfield 15, 3) := by decide +kernel
theorem dX3_init_14 : decode cX3_init 14 = .ok (.aload_n 0, 1) := by decide +kernel
theorem dX3_init_15 : decode cX3_init 15 = .ok (.iconst 0, 1) := by decide +kernel
theorem dX3_init_16 : decode cX3_init 16 = .ok (.putfield 19, 3) := by decide +kernel
theorem dX3_init_19 : decode cX3_init 19 = .ok (.aload_n 0, 1) := by decide +kernel
theorem dX3_init_20 : decode cX3_init 20 = .ok (.iconst 0, 1) := by decide +kernel
theorem dX3_init_21 : decode cX3_init 21 = .ok (.putfield 23, 3) := by decide +kernel
theorem dX3_init_24 : decode cX3_init 24 = .ok (.aload_n 0, 1) := by decide +kernel
theorem dX3_init_25 : decode cX3_init 25 = .ok (.iconst 0, 1) := by decide +kernel
theorem dX3_init_26 : decode cX3_init 26 = .ok (.putfield 26, 3) := by decide +kernel
theorem dX3_init_29 : decode cX3_init 29 = .ok (.aload_n 0, 1) := by decide +kernel
theorem dX3_init_30 : decode cX3_init 30 = .ok (.iconst (-1), 1) := by decide +kernel
theorem dX3_init_31 : decode cX3_init 31 = .ok (.putfield 29, 3) := by decide +kernel
theorem dX3_init_34 : decode cX3_init 34 = .ok (.aload_n 0, 1) := by decide +kernel
theorem dX3_init_35 : decode cX3_init 35 = .ok (.iconst 0, 1) := by decide +kernel
theorem dX3_init_36 : decode cX3_init 36 = .ok (.putfield 32, 3) := by decide +kernel
theorem dX3_init_39 : decode cX3_init 39 = .ok (.aload_n 0, 1) := by decide +kernel
theorem dX3_init_40 : decode cX3_init 40 = .ok (.iconst (-1), 1) := by decide +kernel
theorem dX3_init_41 : decode cX3_init 41 = .ok (.putfield 35, 3) := by decide +kernel
theorem dX3_init_44 : decode cX3_init 44 = .ok (.return_, 1) := by decide +kernel
theorem dX3_readText_0 : decode cX3_readText 0 = .ok (.aload_n 0, 1) := by decide +kernel
theorem dX3_readText_1 : decode cX3_readText 1 = .ok (.getfield 15, 3) := by decide +kernel
theorem dX3_readText_4 : decode cX3_readText 4 = .ok (.invokevirtual 38, 3) := by decide +kernel
theorem dX3_readText_7 : decode cX3_readText 7 = .ok (.aload_n 0, 1) := by decide +kernel
theorem dX3_readText_8 : decode cX3_readText 8 = .ok (.invokevirtual 43, 3) := by decide +kernel
theorem dX3_readText_11 : decode cX3_readText 11 = .ok (.aload_n 0, 1) := by decide +kernel
theorem dX3_readText_12 : decode cX3_readText 12 = .ok (.ldc 46, 2) := by decide +kernel
theorem dX3_readText_14 : decode cX3_readText 14 = .ok (.aload_n 0, 1) := by decide +kernel
theorem dX3_readText_15 : decode cX3_readText 15 = .ok (.getfield 15, 3) := by decide +kernel
theorem dX3_readText_18 : decode cX3_readText 18 = .ok (.getfield 48, 3) := by decide +kernel
theorem dX3_readText_21 : decode cX3_readText 21 = .ok (.bipush 6, 2) := by decide +kernel
theorem dX3_readText_23 : decode cX3_readText 23 = .ok (.invokevirtual 51, 3) := by decide +kernel
theorem dX3_readText_26 : decode cX3_readText 26 = .ok (.ifCond .eq 60, 3) := by decide +kernel
theorem dX3_readText_29 : decode cX3_readText 29 = .ok (.aload_n 0, 1) := by decide +kernel
theorem dX3_readText_30 : decode cX3_readText 30 = .ok (.ldc 55, 2) := by decide +kernel
theorem dX3_readText_32 : decode cX3_readText 32 = .ok (.aload_n 0, 1) := by decide +kernel
theorem dX3_readText_33 : decode cX3_readText 33 = .ok (.getfield 15, 3) := by decide +kernel
theorem dX3_readText_36 : decode cX3_readText 36 = .ok (.getfield 57, 3) := by decide +kernel
theorem dX3_readText_39 : decode cX3_readText 39 = .ok (.iconst 4, 1) := by decide +kernel
theorem dX3_readText_40 : decode cX3_readText 40 = .ok (.invokevirtual 51, 3) := by decide +kernel
theorem dX3_readText_43 : decode cX3_readText 43 = .ok (.ifCond .eq 43, 3) := by decide +kernel
theorem dX3_readText_46 : decode cX3_readText 46 = .ok (.aload_n 0, 1) := by decide +kernel
theorem dX3_readText_47 : decode cX3_readText 47 = .ok (.invokevirtual 59, 3) := by decide +kernel
theorem dX3_readText_50 : decode cX3_readText 50 = .ok (.ifCond .eq 36, 3) := by decide +kernel
theorem dX3_readText_53 : decode cX3_readText 53 = .ok (.aload_n 0, 1) := by decide +kernel
theorem dX3_readText_54 : decode cX3_readText 54 = .ok (.invokevirtual 63, 3) := by decide +kernel
theorem dX3_readText_57 : decode cX3_readText 57 = .ok (.ifCond .eq 29, 3) := by decide +kernel
theorem dX3_readText_60 : decode cX3_readText 60 = .ok (.aload_n 0, 1) := by decide +kernel
theorem dX3_readText_61 : decode cX3_readText 61 = .ok (.invokevirtual 66, 3) := by decide +kernel
theorem dX3_readText_64 : decode cX3_readText 64 = .ok (.ifCond .eq 22, 3) := by decide +kernel
theorem dX3_readText_67 : decode cX3_readText 67 = .ok (.aload_n 0, 1) := by decide +kernel
theorem dX3_readText_68 : decode cX3_readText 68 = .ok (.getfield 19, 3) := by decide +kernel
theorem dX3_readText_71 : decode cX3_readText 71 = .ok (.ifCond .eq 11, 3) := by decide +kernel
theorem dX3_readText_74 : decode cX3_readText 74 = .ok (.aload_n 0, 1) := by decide +kernel
theorem dX3_readText_75 : decode cX3_readText 75 = .ok (.iconst 1, 1) := by decide +kernel
theorem dX3_readText_76 : decode cX3_readText 76 = .ok (.invokevirtual 69, 3) := by decide +kernel
theorem dX3_readText_79 : decode cX3_readText 79 = .ok (.ifCond .eq 7, 3) := by decide +kernel
theorem dX3_readText_82 : decode cX3_readText 82 = .ok (.iconst 1, 1) := by decide +kernel
theorem dX3_readText_83 : decode cX3_readText 83 = .ok (.goto 4, 3) := by decide +kernel
theorem dX3_readText_86 : decode cX3_readText 86 = .ok (.iconst 0, 1) := by decide +kernel
theorem dX3_readText_87 : decode cX3_readText 87 = .ok (.ireturn, 1) := by decide +kernel
theorem dX3_readNames_0 : decode cX3_readNames 0 = .ok (.aload_n 0, 1) := by decide +kernel
theorem dX3_readNames_1 : decode cX3_readNames 1 = .ok (.aload_n 1, 1) := by decide +kernel
theorem dX3_readNames_2 : decode cX3_readNames 2 = .ok (.invokevirtual 73, 3) := by decide +kernel
theorem dX3_readNames_5 : decode cX3_readNames 5 = .ok (.ifCond .ne 9, 3) := by decide +kernel
theorem dX3_readNames_8 : decode cX3_readNames 8 = .ok (.aload_n 0, 1) := by decide +kernel
theorem dX3_readNames_9 : decode cX3_readNames 9 = .ok (.iconst 1, 1) := by decide +kernel
theorem dX3_readNames_10 : decode cX3_readNames 10 = .ok (.invokevirtual 69, 3) := by decide +kernel
theorem dX3_readNames_13 : decode cX3_readNames 13 = .ok (.ireturn, 1) := by decide +kernel
theorem dX3_readNames_14 : decode cX3_readNames 14 = .ok (.aload_n 0, 1) := by decide +kernel
theorem dX3_readNames_15 : decode cX3_readNames 15 = .ok (.invokevirtual 43, 3) := by decide +kernel
theorem dX3_readNames_18 : decode cX3_readNames 18 = .ok (.iconst 0, 1) := by decide +kernel
theorem dX3_readNames_19 : decode cX3_readNames 19 = .ok (.istore 4, 2) := by decide +kernel
theorem dX3_readNames_21 : decode cX3_readNames 21 = .ok (.iload 4, 2) := by decide +kernel
theorem dX3_readNames_23 : decode cX3_readNames 23 = .ok (.iload_n 3, 1) := by decide +kernel
theorem dX3_readNames_24 : decode cX3_readNames 24 = .ok (.if_icmp .gt 86, 3) := by decide +kernel
theorem dX3_readNames_27 : decode cX3_readNames 27 = .ok (.iload 4, 2) := by decide +kernel
theorem dX3_readNames_29 : decode cX3_readNames 29 = .ok (.ifCond .le 14, 3) := by decide +kernel
theorem dX3_readNames_32 : decode cX3_readNames 32 = .ok (.aload_n 0, 1) := by decide +kernel
theorem dX3_readNames_33 : decode cX3_readNames 33 = .ok (.getfield 19, 3) := by decide +kernel
theorem dX3_readNames_36 : decode cX3_readNames 36 = .ok (.iconst 3, 1) := by decide +kernel
theorem dX3_readNames_37 : decode cX3_readNames 37 = .ok (.if_icmp .ne 6, 3) := by decide +kernel
theorem dX3_readNames_40 : decode cX3_readNames 40 = .ok (.goto 70, 3) := by decide +kernel
theorem dX3_readNames_43 : decode cX3_readNames 43 = .ok (.aload_n 0, 1) := by decide +kernel
theorem dX3_readNames_44 : decode cX3_readNames 44 = .ok (.invokevirtual 77, 3) := by decide +kernel
theorem dX3_readNames_47 : decode cX3_readNames 47 = .ok (.ifCond .ne 9, 3) := by decide +kernel
theorem dX3_readNames_50 : decode cX3_readNames 50 = .ok (.aload_n 0, 1) := by decide +kernel
theorem dX3_readNames_51 : decode cX3_readNames 51 = .ok (.iconst 1, 1) := by decide +kernel
theorem dX3_readNames_52 : decode cX3_readNames 52 = .ok (.invokevirtual 69, 3) := by decide +kernel
theorem dX3_readNames_55 : decode cX3_readNames 55 = .ok (.ireturn, 1) := by decide +kernel
theorem dX3_readNames_56 : decode cX3_readNames 56 = .ok (.aload_n 2, 1) := by decide +kernel
theorem dX3_readNames_57 : decode cX3_readNames 57 = .ok (.iconst 0, 1) := by decide +kernel
theorem dX3_readNames_58 : decode cX3_readNames 58 = .ok (.aload_n 0, 1) := by decide +kernel
theorem dX3_readNames_59 : decode cX3_readNames 59 = .ok (.getfield 29, 3) := by decide +kernel
theorem dX3_readNames_62 : decode cX3_readNames 62 = .ok (.invokevirtual 80, 3) := by decide +kernel
theorem dX3_readNames_65 : decode cX3_readNames 65 = .ok (.iconst (-1), 1) := by decide +kernel
theorem dX3_readNames_66 : decode cX3_readNames 66 = .ok (.if_icmp .eq 9, 3) := by decide +kernel
theorem dX3_readNames_69 : decode cX3_readNames 69 = .ok (.aload_n 0, 1) := by decide +kernel
theorem dX3_readNames_70 : decode cX3_readNames 70 = .ok (.iconst 3, 1) := by decide +kernel
theorem dX3_readNames_71 : decode cX3_readNames 71 = .ok (.invokevirtual 69, 3) := by decide +kernel
theorem dX3_readNames_74 : decode cX3_readNames 74 = .ok (.ireturn, 1) := by decide +kernel
theorem dX3_readNames_75 : decode cX3_readNames 75 = .ok (.iload 4, 2) := by decide +kernel
theorem dX3_readNames_77 : decode cX3_readNames 77 = .ok (.iload_n 3, 1) := by decide +kernel
theorem dX3_readNames_78 : decode cX3_readNames 78 = .ok (.if_icmp .ne 9, 3) := by decide +kernel
theorem dX3_readNames_81 : decode cX3_readNames 81 = .ok (.aload_n 0, 1) := by decide +kernel
theorem dX3_readNames_82 : decode cX3_readNames 82 = .ok (.iconst 5, 1) := by decide +kernel
theorem dX3_readNames_83 : decode cX3_readNames 83 = .ok (.invokevirtual 69, 3) := by decide +kernel
theorem dX3_readNames_86 : decode cX3_readNames 86 = .ok (.ireturn, 1) := by decide +kernel
theorem dX3_readNames_87 : decode cX3_readNames 87 = .ok (.aload_n 2, 1) := by decide +kernel
theorem dX3_readNames_88 : decode cX3_readNames 88 = .ok (.aload_n 2, 1) := by decide +kernel
theorem dX3_readNames_89 : decode cX3_readNames 89 = .ok (.invokevirtual 86, 3) := by decide +kernel
theorem dX3_readNames_92 : decode cX3_readNames 92 = .ok (.iconst 0, 1) := by decide +kernel
theorem dX3_readNames_93 : decode cX3_readNames 93 = .ok (.aload_n 0, 1) := by decide +kernel
theorem dX3_readNames_94 : decode cX3_readNames 94 = .ok (.getfield 29, 3) := by decide +kernel
theorem dX3_readNames_97 : decode cX3_readNames 97 = .ok (.invokevirtual 90, 3) := by decide +kernel
theorem dX3_readNames_100 : decode cX3_readNames 100 = .ok (.aload_n 0, 1) := by decide +kernel
theorem dX3_readNames_101 : decode cX3_readNames 101 = .ok (.invokevirtual 43, 3) := by decide +kernel
theorem dX3_readNames_104 : decode cX3_readNames 104 = .ok (.iinc 4 1, 3) := by decide +kernel
theorem dX3_readNames_107 : decode cX3_readNames 107 = .ok (.goto (-86), 3) := by decide +kernel
theorem dX3_readNames_110 : decode cX3_readNames 110 = .ok (.aload_n 0, 1) := by decide +kernel
theorem dX3_readNames_111 : decode cX3_readNames 111 = .ok (.invokevirtual 94, 3) := by decide +kernel
theorem dX3_readNames_114 : decode cX3_readNames 114 = .ok (.ireturn, 1) := by decide +kernel
theorem dX3_readServices_0 : decode cX3_readServices 0 = .ok (.iconst 0, 1) := by decide +kernel
theorem dX3_readServices_1 : decode cX3_readServices 1 = .ok (.istore_n 1, 1) := by decide +kernel
theorem dX3_readServices_2 : decode cX3_readServices 2 = .ok (.iload_n 1, 1) := by decide +kernel
theorem dX3_readServices_3 : decode cX3_readServices 3 = .ok (.bipush 12, 2) := by decide +kernel
theorem dX3_readServices_5 : decode cX3_readServices 5 = .ok (.if_icmp .gt 39, 3) := by decide +kernel
theorem dX3_readServices_8 : decode cX3_readServices 8 = .ok (.aload_n 0, 1) := by decide +kernel
theorem dX3_readServices_9 : decode cX3_readServices 9 = .ok (.ldc 97, 2) := by decide +kernel
theorem dX3_readServices_11 : decode cX3_readServices 11 = .ok (.invokevirtual 73, 3) := by decide +kernel
theorem dX3_readServices_14 : decode cX3_readServices 14 = .ok (.ifCond .eq 30, 3) := by decide +kernel
theorem dX3_readServices_17 : decode cX3_readServices 17 = .ok (.iload_n 1, 1) := by decide +kernel
theorem dX3_readServices_18 : decode cX3_readServices 18 = .ok (.bipush 12, 2) := by decide +kernel
theorem dX3_readServices_20 : decode cX3_readServices 20 = .ok (.if_icmp .ne 9, 3) := by decide +kernel
theorem dX3_readServices_23 : decode cX3_readServices 23 = .ok (.aload_n 0, 1) := by decide +kernel
theorem dX3_readServices_24 : decode cX3_readServices 24 = .ok (.iconst 5, 1) := by decide +kernel
theorem dX3_readServices_25 : decode cX3_readServices 25 = .ok (.invokevirtual 69, 3) := by decide +kernel
theorem dX3_readServices_28 : decode cX3_readServices 28 = .ok (.ireturn, 1) := by decide +kernel
theorem dX3_readServices_29 : decode cX3_readServices 29 = .ok (.aload_n 0, 1) := by decide +kernel
theorem dX3_readServices_30 : decode cX3_readServices 30 = .ok (.invokevirtual 99, 3) := by decide +kernel
theorem dX3_readServices_33 : decode cX3_readServices 33 = .ok (.ifCond .ne 5, 3) := by decide +kernel
theorem dX3_readServices_36 : decode cX3_readServices 36 = .ok (.iconst 0, 1) := by decide +kernel
theorem dX3_readServices_37 : decode cX3_readServices 37 = .ok (.ireturn, 1) := by decide +kernel
theorem dX3_readServices_38 : decode cX3_readServices 38 = .ok (.iinc 1 1, 3) := by decide +kernel
theorem dX3_readServices_41 : decode cX3_readServices 41 = .ok (.goto (-39), 3) := by decide +kernel
theorem dX3_readServices_44 : decode cX3_readServices 44 = .ok (.iconst 1, 1) := by decide +kernel
theorem dX3_readServices_45 : decode cX3_readServices 45 = .ok (.ireturn, 1) := by decide +kernel
theorem dX3_readService_0 : decode cX3_readService 0 = .ok (.aload_n 0, 1) := by decide +kernel
theorem dX3_readService_1 : decode cX3_readService 1 = .ok (.invokevirtual 43, 3) := by decide +kernel
theorem dX3_readService_4 : decode cX3_readService 4 = .ok (.aload_n 0, 1) := by decide +kernel
theorem dX3_readService_5 : decode cX3_readService 5 = .ok (.aload_n 0, 1) := by decide +kernel
theorem dX3_readService_6 : decode cX3_readService 6 = .ok (.getfield 15, 3) := by decide +kernel
theorem dX3_readService_9 : decode cX3_readService 9 = .ok (.getfield 48, 3) := by decide +kernel
theorem dX3_readService_12 : decode cX3_readService 12 = .ok (.invokevirtual 102, 3) := by decide +kernel
theorem dX3_readService_15 : decode cX3_readService 15 = .ok (.istore_n 1, 1) := by decide +kernel
theorem dX3_readService_16 : decode cX3_readService 16 = .ok (.iload_n 1, 1) := by decide +kernel
theorem dX3_readService_17 : decode cX3_readService 17 = .ok (.iconst (-1), 1) := by decide +kernel
theorem dX3_readService_18 : decode cX3_readService 18 = .ok (.if_icmp .ne 7, 3) := by decide +kernel
theorem dX3_readService_21 : decode cX3_readService 21 = .ok (.iconst (-1), 1) := by decide +kernel
theorem dX3_readService_22 : decode cX3_readService 22 = .ok (.goto 14, 3) := by decide +kernel
theorem dX3_readService_25 : decode cX3_readService 25 = .ok (.aload_n 0, 1) := by decide +kernel
theorem dX3_readService_26 : decode cX3_readService 26 = .ok (.aload_n 0, 1) := by decide +kernel
theorem dX3_readService_27 : decode cX3_readService 27 = .ok (.getfield 15, 3) := by decide +kernel
theorem dX3_readService_30 : decode cX3_readService 30 = .ok (.getfield 57, 3) := by decide +kernel
theorem dX3_readService_33 : decode cX3_readService 33 = .ok (.invokevirtual 102, 3) := by decide +kernel
theorem dX3_readService_36 : decode cX3_readService 36 = .ok (.istore_n 2, 1) := by decide +kernel
theorem dX3_readService_37 : decode cX3_readService 37 = .ok (.iload_n 2, 1) := by decide +kernel
theorem dX3_readService_38 : decode cX3_readService 38 = .ok (.iconst (-1), 1) := by decide +kernel
theorem dX3_readService_39 : decode cX3_readService 39 = .ok (.if_icmp .ne 5, 3) := by decide +kernel
theorem dX3_readService_42 : decode cX3_readService 42 = .ok (.iconst 0, 1) := by decide +kernel
theorem dX3_readService_43 : decode cX3_readService 43 = .ok (.ireturn, 1) := by decide +kernel
theorem dX3_readService_44 : decode cX3_readService 44 = .ok (.aload_n 0, 1) := by decide +kernel
theorem dX3_readService_45 : decode cX3_readService 45 = .ok (.invokevirtual 77, 3) := by decide +kernel
theorem dX3_readService_48 : decode cX3_readService 48 = .ok (.ifCond .ne 9, 3) := by decide +kernel
theorem dX3_readService_51 : decode cX3_readService 51 = .ok (.aload_n 0, 1) := by decide +kernel
theorem dX3_readService_52 : decode cX3_readService 52 = .ok (.iconst 1, 1) := by decide +kernel
theorem dX3_readService_53 : decode cX3_readService 53 = .ok (.invokevirtual 69, 3) := by decide +kernel
theorem dX3_readService_56 : decode cX3_readService 56 = .ok (.ireturn, 1) := by decide +kernel
theorem dX3_readService_57 : decode cX3_readService 57 = .ok (.aload_n 0, 1) := by decide +kernel
theorem dX3_readService_58 : decode cX3_readService 58 = .ok (.getfield 15, 3) := by decide +kernel
theorem dX3_readService_61 : decode cX3_readService 61 = .ok (.iload_n 1, 1) := by decide +kernel
theorem dX3_readService_62 : decode cX3_readService 62 = .ok (.iload_n 2, 1) := by decide +kernel
theorem dX3_readService_63 : decode cX3_readService 63 = .ok (.aload_n 0, 1) := by decide +kernel
theorem dX3_readService_64 : decode cX3_readService 64 = .ok (.getfield 29, 3) := by decide +kernel
theorem dX3_readService_67 : decode cX3_readService 67 = .ok (.invokevirtual 106, 3) := by decide +kernel
theorem dX3_readService_70 : decode cX3_readService 70 = .ok (.ifCond .eq 9, 3) := by decide +kernel
theorem dX3_readService_73 : decode cX3_readService 73 = .ok (.aload_n 0, 1) := by decide +kernel
theorem dX3_readService_74 : decode cX3_readService 74 = .ok (.iconst 3, 1) := by decide +kernel
theorem dX3_readService_75 : decode cX3_readService 75 = .ok (.invokevirtual 69, 3) := by decide +kernel
theorem dX3_readService_78 : decode cX3_readService 78 = .ok (.ireturn, 1) := by decide +kernel
theorem dX3_readService_79 : decode cX3_readService 79 = .ok (.aload_n 0, 1) := by decide +kernel
theorem dX3_readService_80 : decode cX3_readService 80 = .ok (.getfield 29, 3) := by decide +kernel
theorem dX3_readService_83 : decode cX3_readService 83 = .ok (.istore_n 3, 1) := by decide +kernel
theorem dX3_readService_84 : decode cX3_readService 84 = .ok (.aload_n 0, 1) := by decide +kernel
theorem dX3_readService_85 : decode cX3_readService 85 = .ok (.invokevirtual 43, 3) := by decide +kernel
theorem dX3_readService_88 : decode cX3_readService 88 = .ok (.aload_n 0, 1) := by decide +kernel
theorem dX3_readService_89 : decode cX3_readService 89 = .ok (.iconst 1, 1) := by decide +kernel
theorem dX3_readService_90 : decode cX3_readService 90 = .ok (.sipush 999, 3) := by decide +kernel
theorem dX3_readService_93 : decode cX3_readService 93 = .ok (.invokevirtual 110, 3) := by decide +kernel
theorem dX3_readService_96 : decode cX3_readService 96 = .ok (.istore 4, 2) := by decide +kernel
theorem dX3_readService_98 : decode cX3_readService 98 = .ok (.iload 4, 2) := by decide +kernel
theorem dX3_readService_100 : decode cX3_readService 100 = .ok (.iconst (-1), 1) := by decide +kernel
theorem dX3_readService_101 : decode cX3_readService 101 = .ok (.if_icmp .ne 7, 3) := by decide +kernel
theorem dX3_readService_104 : decode cX3_readService 104 = .ok (.iconst (-1), 1) := by decide +kernel
theorem dX3_readService_105 : decode cX3_readService 105 = .ok (.goto 12, 3) := by decide +kernel
theorem dX3_readService_108 : decode cX3_readService 108 = .ok (.aload_n 0, 1) := by decide +kernel
theorem dX3_readService_109 : decode cX3_readService 109 = .ok (.bipush 20, 2) := by decide +kernel
theorem dX3_readService_111 : decode cX3_readService 111 = .ok (.sipush 1000, 3) := by decide +kernel
theorem dX3_readService_114 : decode cX3_readService 114 = .ok (.invokevirtual 110, 3) := by decide +kernel
theorem dX3_readService_117 : decode cX3_readService 117 = .ok (.istore 5, 2) := by decide +kernel
theorem dX3_readService_119 : decode cX3_readService 119 = .ok (.iload 5, 2) := by decide +kernel
theorem dX3_readService_121 : decode cX3_readService 121 = .ok (.iconst (-1), 1) := by decide +kernel
theorem dX3_readService_122 : decode cX3_readService 122 = .ok (.if_icmp .ne 5, 3) := by decide +kernel
theorem dX3_readService_125 : decode cX3_readService 125 = .ok (.iconst 0, 1) := by decide +kernel
theorem dX3_readService_126 : decode cX3_readService 126 = .ok (.ireturn, 1) := by decide +kernel
theorem dX3_readService_127 : decode cX3_readService 127 = .ok (.aload_n 0, 1) := by decide +kernel
theorem dX3_readService_128 : decode cX3_readService 128 = .ok (.getfield 15, 3) := by decide +kernel
theorem dX3_readService_131 : decode cX3_readService 131 = .ok (.iload_n 1, 1) := by decide +kernel
theorem dX3_readService_132 : decode cX3_readService 132 = .ok (.iload_n 2, 1) := by decide +kernel
theorem dX3_readService_133 : decode cX3_readService 133 = .ok (.iload_n 3, 1) := by decide +kernel
theorem dX3_readService_134 : decode cX3_readService 134 = .ok (.iload 4, 2) := by decide +kernel
theorem dX3_readService_136 : decode cX3_readService 136 = .ok (.iload 5, 2) := by decide +kernel
theorem dX3_readService_138 : decode cX3_readService 138 = .ok (.invokevirtual 113, 3) := by decide +kernel
theorem dX3_readService_141 : decode cX3_readService 141 = .ok (.pop, 1) := by decide +kernel
theorem dX3_readService_142 : decode cX3_readService 142 = .ok (.aload_n 0, 1) := by decide +kernel
theorem dX3_readService_143 : decode cX3_readService 143 = .ok (.invokevirtual 94, 3) := by decide +kernel
theorem dX3_readService_146 : decode cX3_readService 146 = .ok (.ireturn, 1) := by decide +kernel
theorem dX3_readBrowsers_0 : decode cX3_readBrowsers 0 = .ok (.iconst 0, 1) := by decide +kernel
theorem dX3_readBrowsers_1 : decode cX3_readBrowsers 1 = .ok (.istore_n 1, 1) := by decide +kernel
theorem dX3_readBrowsers_2 : decode cX3_readBrowsers 2 = .ok (.iload_n 1, 1) := by decide +kernel
theorem dX3_readBrowsers_3 : decode cX3_readBrowsers 3 = .ok (.bipush 24, 2) := by decide +kernel
theorem dX3_readBrowsers_5 : decode cX3_readBrowsers 5 = .ok (.if_icmp .gt 27, 3) := by decide +kernel
theorem dX3_readBrowsers_8 : decode cX3_readBrowsers 8 = .ok (.aload_n 0, 1) := by decide +kernel
theorem dX3_readBrowsers_9 : decode cX3_readBrowsers 9 = .ok (.ldc 117, 2) := by decide +kernel
theorem dX3_readBrowsers_11 : decode cX3_readBrowsers 11 = .ok (.invokevirtual 73, 3) := by decide +kernel
theorem dX3_readBrowsers_14 : decode cX3_readBrowsers 14 = .ok (.ifCond .eq 18, 3) := by decide +kernel
theorem dX3_readBrowsers_17 : decode cX3_readBrowsers 17 = .ok (.aload_n 0, 1) := by decide +kernel
theorem dX3_readBrowsers_18 : decode cX3_readBrowsers 18 = .ok (.invokevirtual 119, 3) := by decide +kernel
theorem dX3_readBrowsers_21 : decode cX3_readBrowsers 21 = .ok (.ifCond .ne 5, 3) := by decide +kernel
theorem dX3_readBrowsers_24 : decode cX3_readBrowsers 24 = .ok (.iconst 0, 1) := by decide +kernel
theorem dX3_readBrowsers_25 : decode cX3_readBrowsers 25 = .ok (.ireturn, 1) := by decide +kernel
theorem dX3_readBrowsers_26 : decode cX3_readBrowsers 26 = .ok (.iinc 1 1, 3) := by decide +kernel
theorem dX3_readBrowsers_29 : decode cX3_readBrowsers 29 = .ok (.goto (-27), 3) := by decide +kernel
theorem dX3_readBrowsers_32 : decode cX3_readBrowsers 32 = .ok (.iconst 1, 1) := by decide +kernel
theorem dX3_readBrowsers_33 : decode cX3_readBrowsers 33 = .ok (.ireturn, 1) := by decide +kernel
theorem dX3_readBrowser_0 : decode cX3_readBrowser 0 = .ok (.aload_n 0, 1) := by decide +kernel
theorem dX3_readBrowser_1 : decode cX3_readBrowser 1 = .ok (.invokevirtual 43, 3) := by decide +kernel
theorem dX3_readBrowser_4 : decode cX3_readBrowser 4 = .ok (.aload_n 0, 1) := by decide +kernel
theorem dX3_readBrowser_5 : decode cX3_readBrowser 5 = .ok (.aload_n 0, 1) := by decide +kernel
theorem dX3_readBrowser_6 : decode cX3_readBrowser 6 = .ok (.getfield 15, 3) := by decide +kernel
theorem dX3_readBrowser_9 : decode cX3_readBrowser 9 = .ok (.getfield 48, 3) := by decide +kernel
theorem dX3_readBrowser_12 : decode cX3_readBrowser 12 = .ok (.invokevirtual 102, 3) := by decide +kernel
theorem dX3_readBrowser_15 : decode cX3_readBrowser 15 = .ok (.istore_n 1, 1) := by decide +kernel
theorem dX3_readBrowser_16 : decode cX3_readBrowser 16 = .ok (.aload_n 0, 1) := by decide +kernel
theorem dX3_readBrowser_17 : decode cX3_readBrowser 17 = .ok (.getfield 23, 3) := by decide +kernel
theorem dX3_readBrowser_20 : decode cX3_readBrowser 20 = .ok (.istore_n 2, 1) := by decide +kernel
theorem dX3_readBrowser_21 : decode cX3_readBrowser 21 = .ok (.iload_n 1, 1) := by decide +kernel
theorem dX3_readBrowser_22 : decode cX3_readBrowser 22 = .ok (.iconst (-1), 1) := by decide +kernel
theorem dX3_readBrowser_23 : decode cX3_readBrowser 23 = .ok (.if_icmp .ne 7, 3) := by decide +kernel
theorem dX3_readBrowser_26 : decode cX3_readBrowser 26 = .ok (.iconst (-1), 1) := by decide +kernel
theorem dX3_readBrowser_27 : decode cX3_readBrowser 27 = .ok (.goto 14, 3) := by decide +kernel
theorem dX3_readBrowser_30 : decode cX3_readBrowser 30 = .ok (.aload_n 0, 1) := by decide +kernel
theorem dX3_readBrowser_31 : decode cX3_readBrowser 31 = .ok (.aload_n 0, 1) := by decide +kernel
theorem dX3_readBrowser_32 : decode cX3_readBrowser 32 = .ok (.getfield 15, 3) := by decide +kernel
theorem dX3_readBrowser_35 : decode cX3_readBrowser 35 = .ok (.getfield 57, 3) := by decide +kernel
theorem dX3_readBrowser_38 : decode cX3_readBrowser 38 = .ok (.invokevirtual 102, 3) := by decide +kernel
theorem dX3_readBrowser_41 : decode cX3_readBrowser 41 = .ok (.istore_n 3, 1) := by decide +kernel
theorem dX3_readBrowser_42 : decode cX3_readBrowser 42 = .ok (.iload_n 3, 1) := by decide +kernel
theorem dX3_readBrowser_43 : decode cX3_readBrowser 43 = .ok (.iconst (-1), 1) := by decide +kernel
theorem dX3_readBrowser_44 : decode cX3_readBrowser 44 = .ok (.if_icmp .ne 5, 3) := by decide +kernel
theorem dX3_readBrowser_47 : decode cX3_readBrowser 47 = .ok (.iconst 0, 1) := by decide +kernel
theorem dX3_readBrowser_48 : decode cX3_readBrowser 48 = .ok (.ireturn, 1) := by decide +kernel
theorem dX3_readBrowser_49 : decode cX3_readBrowser 49 = .ok (.aload_n 0, 1) := by decide +kernel
theorem dX3_readBrowser_50 : decode cX3_readBrowser 50 = .ok (.getfield 15, 3) := by decide +kernel
theorem dX3_readBrowser_53 : decode cX3_readBrowser 53 = .ok (.iload_n 1, 1) := by decide +kernel
theorem dX3_readBrowser_54 : decode cX3_readBrowser 54 = .ok (.iload_n 3, 1) := by decide +kernel
theorem dX3_readBrowser_55 : decode cX3_readBrowser 55 = .ok (.invokevirtual 122, 3) := by decide +kernel
theorem dX3_readBrowser_58 : decode cX3_readBrowser 58 = .ok (.ifCond .eq 10, 3) := by decide +kernel
theorem dX3_readBrowser_61 : decode cX3_readBrowser 61 = .ok (.aload_n 0, 1) := by decide +kernel
theorem dX3_readBrowser_62 : decode cX3_readBrowser 62 = .ok (.iconst 3, 1) := by decide +kernel
theorem dX3_readBrowser_63 : decode cX3_readBrowser 63 = .ok (.iload_n 2, 1) := by decide +kernel
theorem dX3_readBrowser_64 : decode cX3_readBrowser 64 = .ok (.invokevirtual 126, 3) := by decide +kernel
theorem dX3_readBrowser_67 : decode cX3_readBrowser 67 = .ok (.ireturn, 1) := by decide +kernel
theorem dX3_readBrowser_68 : decode cX3_readBrowser 68 = .ok (.aload_n 0, 1) := by decide +kernel
theorem dX3_readBrowser_69 : decode cX3_readBrowser 69 = .ok (.getfield 15, 3) := by decide +kernel
theorem dX3_readBrowser_72 : decode cX3_readBrowser 72 = .ok (.iload_n 1, 1) := by decide +kernel
theorem dX3_readBrowser_73 : decode cX3_readBrowser 73 = .ok (.iload_n 3, 1) := by decide +kernel
theorem dX3_readBrowser_74 : decode cX3_readBrowser 74 = .ok (.invokevirtual 129, 3) := by decide +kernel
theorem dX3_readBrowser_77 : decode cX3_readBrowser 77 = .ok (.aload_n 0, 1) := by decide +kernel
theorem dX3_readBrowser_78 : decode cX3_readBrowser 78 = .ok (.invokevirtual 94, 3) := by decide +kernel
theorem dX3_readBrowser_81 : decode cX3_readBrowser 81 = .ok (.ireturn, 1) := by decide +kernel
theorem dX3_readLosses_0 : decode cX3_readLosses 0 = .ok (.iconst 0, 1) := by decide +kernel
theorem dX3_readLosses_1 : decode cX3_readLosses 1 = .ok (.istore_n 1, 1) := by decide +kernel
theorem dX3_readLosses_2 : decode cX3_readLosses 2 = .ok (.iload_n 1, 1) := by decide +kernel
theorem dX3_readLosses_3 : decode cX3_readLosses 3 = .ok (.bipush 30, 2) := by decide +kernel
theorem dX3_readLosses_5 : decode cX3_readLosses 5 = .ok (.if_icmp .gt 27, 3) := by decide +kernel
theorem dX3_readLosses_8 : decode cX3_readLosses 8 = .ok (.aload_n 0, 1) := by decide +kernel
theorem dX3_readLosses_9 : decode cX3_readLosses 9 = .ok (.ldc 133, 2) := by decide +kernel
theorem dX3_readLosses_11 : decode cX3_readLosses 11 = .ok (.invokevirtual 73, 3) := by decide +kernel
theorem dX3_readLosses_14 : decode cX3_readLosses 14 = .ok (.ifCond .eq 18, 3) := by decide +kernel
theorem dX3_readLosses_17 : decode cX3_readLosses 17 = .ok (.aload_n 0, 1) := by decide +kernel
theorem dX3_readLosses_18 : decode cX3_readLosses 18 = .ok (.invokevirtual 135, 3) := by decide +kernel
theorem dX3_readLosses_21 : decode cX3_readLosses 21 = .ok (.ifCond .ne 5, 3) := by decide +kernel
theorem dX3_readLosses_24 : decode cX3_readLosses 24 = .ok (.iconst 0, 1) := by decide +kernel
theorem dX3_readLosses_25 : decode cX3_readLosses 25 = .ok (.ireturn, 1) := by decide +kernel
theorem dX3_readLosses_32 : decode cX3_readLosses 32 = .ok (.iconst 1, 1) := by decide +kernel
theorem dX3_readLosses_33 : decode cX3_readLosses 33 = .ok (.ireturn, 1) := by decide +kernel
theorem dX3_readSemicolon_0 : decode cX3_readSemicolon 0 = .ok (.aload_n 0, 1) := by decide +kernel
theorem dX3_readSemicolon_1 : decode cX3_readSemicolon 1 = .ok (.getfield 19, 3) := by decide +kernel
theorem dX3_readSemicolon_4 : decode cX3_readSemicolon 4 = .ok (.iconst 3, 1) := by decide +kernel
theorem dX3_readSemicolon_5 : decode cX3_readSemicolon 5 = .ok (.if_icmp .eq 9, 3) := by decide +kernel
theorem dX3_readSemicolon_8 : decode cX3_readSemicolon 8 = .ok (.aload_n 0, 1) := by decide +kernel
theorem dX3_readSemicolon_9 : decode cX3_readSemicolon 9 = .ok (.iconst 1, 1) := by decide +kernel
theorem dX3_readSemicolon_10 : decode cX3_readSemicolon 10 = .ok (.invokevirtual 69, 3) := by decide +kernel
theorem dX3_readSemicolon_13 : decode cX3_readSemicolon 13 = .ok (.ireturn, 1) := by decide +kernel
theorem dX3_readSemicolon_14 : decode cX3_readSemicolon 14 = .ok (.aload_n 0, 1) := by decide +kernel
theorem dX3_readSemicolon_15 : decode cX3_readSemicolon 15 = .ok (.invokevirtual 43, 3) := by decide +kernel
theorem dX3_readSemicolon_18 : decode cX3_readSemicolon 18 = .ok (.iconst 1, 1) := by decide +kernel
theorem dX3_readSemicolon_19 : decode cX3_readSemicolon 19 = .ok (.ireturn, 1) := by decide +kernel
theorem dX3_readPlace_0 : decode cX3_readPlace 0 = .ok (.aload_n 0, 1) := by decide +kernel
theorem dX3_readPlace_1 : decode cX3_readPlace 1 = .ok (.invokevirtual 77, 3) := by decide +kernel
theorem dX3_readPlace_4 : decode cX3_readPlace 4 = .ok (.ifCond .eq 15, 3) := by decide +kernel
theorem dX3_readPlace_7 : decode cX3_readPlace 7 = .ok (.aload_n 1, 1) := by decide +kernel
theorem dX3_readPlace_8 : decode cX3_readPlace 8 = .ok (.iconst 0, 1) := by decide +kernel
theorem dX3_readPlace_9 : decode cX3_readPlace 9 = .ok (.aload_n 0, 1) := by decide +kernel
theorem dX3_readPlace_10 : decode cX3_readPlace 10 = .ok (.getfield 29, 3) := by decide +kernel
theorem dX3_readPlace_13 : decode cX3_readPlace 13 = .ok (.invokevirtual 80, 3) := by decide +kernel
theorem dX3_readPlace_16 : decode cX3_readPlace 16 = .ok (.goto 4, 3) := by decide +kernel
theorem dX3_readPlace_20 : decode cX3_readPlace 20 = .ok (.istore_n 2, 1) := by decide +kernel
theorem dX3_readPlace_21 : decode cX3_readPlace 21 = .ok (.iload_n 2, 1) := by decide +kernel
theorem dX3_readPlace_22 : decode cX3_readPlace 22 = .ok (.iconst (-1), 1) := by decide +kernel
theorem dX3_readPlace_23 : decode cX3_readPlace 23 = .ok (.if_icmp .ne 23, 3) := by decide +kernel
theorem dX3_readPlace_26 : decode cX3_readPlace 26 = .ok (.aload_n 0, 1) := by decide +kernel
theorem dX3_readPlace_27 : decode cX3_readPlace 27 = .ok (.aload_n 0, 1) := by decide +kernel
theorem dX3_readPlace_28 : decode cX3_readPlace 28 = .ok (.invokevirtual 77, 3) := by decide +kernel
theorem dX3_readPlace_31 : decode cX3_readPlace 31 = .ok (.ifCond .eq 7, 3) := by decide +kernel
theorem dX3_readPlace_34 : decode cX3_readPlace 34 = .ok (.iconst 4, 1) := by decide +kernel
theorem dX3_readPlace_35 : decode cX3_readPlace 35 = .ok (.goto 4, 3) := by decide +kernel
theorem dX3_readPlace_46 : decode cX3_readPlace 46 = .ok (.aload_n 0, 1) := by decide +kernel
theorem dX3_readPlace_47 : decode cX3_readPlace 47 = .ok (.invokevirtual 43, 3) := by decide +kernel
theorem dX3_readPlace_50 : decode cX3_readPlace 50 = .ok (.iload_n 2, 1) := by decide +kernel
theorem dX3_readPlace_51 : decode cX3_readPlace 51 = .ok (.ireturn, 1) := by decide +kernel
theorem dX3_readNumber_0 : decode cX3_readNumber 0 = .ok (.aload_n 0, 1) := by decide +kernel
theorem dX3_readNumber_1 : decode cX3_readNumber 1 = .ok (.getfield 29, 3) := by decide +kernel
theorem dX3_readNumber_4 : decode cX3_readNumber 4 = .ok (.istore_n 3, 1) := by decide +kernel
theorem dX3_readNumber_5 : decode cX3_readNumber 5 = .ok (.aload_n 0, 1) := by decide +kernel
theorem dX3_readNumber_6 : decode cX3_readNumber 6 = .ok (.getfield 19, 3) := by decide +kernel
theorem dX3_readNumber_9 : decode cX3_readNumber 9 = .ok (.iconst 2, 1) := by decide +kernel
theorem dX3_readNumber_10 : decode cX3_readNumber 10 = .ok (.if_icmp .eq 11, 3) := by decide +kernel
theorem dX3_readNumber_13 : decode cX3_readNumber 13 = .ok (.aload_n 0, 1) := by decide +kernel
theorem dX3_readNumber_14 : decode cX3_readNumber 14 = .ok (.iconst 1, 1) := by decide +kernel
theorem dX3_readNumber_15 : decode cX3_readNumber 15 = .ok (.invokevirtual 69, 3) := by decide +kernel
theorem dX3_readNumber_18 : decode cX3_readNumber 18 = .ok (.pop, 1) := by decide +kernel
theorem dX3_readNumber_19 : decode cX3_readNumber 19 = .ok (.iconst (-1), 1) := by decide +kernel
theorem dX3_readNumber_20 : decode cX3_readNumber 20 = .ok (.ireturn, 1) := by decide +kernel
theorem dX3_readNumber_21 : decode cX3_readNumber 21 = .ok (.iload_n 3, 1) := by decide +kernel
theorem dX3_readNumber_22 : decode cX3_readNumber 22 = .ok (.iload_n 1, 1) := by decide +kernel
theorem dX3_readNumber_23 : decode cX3_readNumber 23 = .ok (.if_icmp .lt 8, 3) := by decide +kernel
theorem dX3_readNumber_26 : decode cX3_readNumber 26 = .ok (.iload_n 3, 1) := by decide +kernel
theorem dX3_readNumber_27 : decode cX3_readNumber 27 = .ok (.iload_n 2, 1) := by decide +kernel
theorem dX3_readNumber_28 : decode cX3_readNumber 28 = .ok (.if_icmp .le 11, 3) := by decide +kernel
theorem dX3_readNumber_39 : decode cX3_readNumber 39 = .ok (.aload_n 0, 1) := by decide +kernel
theorem dX3_readNumber_40 : decode cX3_readNumber 40 = .ok (.invokevirtual 43, 3) := by decide +kernel
theorem dX3_readNumber_43 : decode cX3_readNumber 43 = .ok (.iload_n 3, 1) := by decide +kernel
theorem dX3_readNumber_44 : decode cX3_readNumber 44 = .ok (.ireturn, 1) := by decide +kernel
theorem dX3_isAtWord_0 : decode cX3_isAtWord 0 = .ok (.aload_n 0, 1) := by decide +kernel
theorem dX3_isAtWord_1 : decode cX3_isAtWord 1 = .ok (.getfield 19, 3) := by decide +kernel
theorem dX3_isAtWord_4 : decode cX3_isAtWord 4 = .ok (.iconst 1, 1) := by decide +kernel
theorem dX3_isAtWord_5 : decode cX3_isAtWord 5 = .ok (.if_icmp .ne 26, 3) := by decide +kernel
theorem dX3_isAtWord_8 : decode cX3_isAtWord 8 = .ok (.aload_n 0, 1) := by decide +kernel
theorem dX3_isAtWord_9 : decode cX3_isAtWord 9 = .ok (.getfield 9, 3) := by decide +kernel
theorem dX3_isAtWord_12 : decode cX3_isAtWord 12 = .ok (.aload_n 0, 1) := by decide +kernel
theorem dX3_isAtWord_13 : decode cX3_isAtWord 13 = .ok (.getfield 23, 3) := by decide +kernel
theorem dX3_isAtWord_16 : decode cX3_isAtWord 16 = .ok (.aload_n 0, 1) := by decide +kernel
theorem dX3_isAtWord_17 : decode cX3_isAtWord 17 = .ok (.getfield 26, 3) := by decide +kernel
theorem dX3_isAtWord_20 : decode cX3_isAtWord 20 = .ok (.aload_n 1, 1) := by decide +kernel
theorem dX3_isAtWord_21 : decode cX3_isAtWord 21 = .ok (.invokevirtual 148, 3) := by decide +kernel
theorem dX3_isAtWord_24 : decode cX3_isAtWord 24 = .ok (.ifCond .eq 7, 3) := by decide +kernel
theorem dX3_isAtWord_27 : decode cX3_isAtWord 27 = .ok (.iconst 1, 1) := by decide +kernel
theorem dX3_isAtWord_28 : decode cX3_isAtWord 28 = .ok (.goto 4, 3) := by decide +kernel
theorem dX3_isAtWord_31 : decode cX3_isAtWord 31 = .ok (.iconst 0, 1) := by decide +kernel
theorem dX3_isAtWord_32 : decode cX3_isAtWord 32 = .ok (.ireturn, 1) := by decide +kernel
theorem dX3_isAtName_0 : decode cX3_isAtName 0 = .ok (.aload_n 0, 1) := by decide +kernel
theorem dX3_isAtName_1 : decode cX3_isAtName 1 = .ok (.getfield 19, 3) := by decide +kernel
theorem dX3_isAtName_4 : decode cX3_isAtName 4 = .ok (.iconst 1, 1) := by decide +kernel
theorem dX3_isAtName_5 : decode cX3_isAtName 5 = .ok (.if_icmp .ne 15, 3) := by decide +kernel
theorem dX3_isAtName_8 : decode cX3_isAtName 8 = .ok (.aload_n 0, 1) := by decide +kernel
theorem dX3_isAtName_9 : decode cX3_isAtName 9 = .ok (.getfield 29, 3) := by decide +kernel
theorem dX3_isAtName_12 : decode cX3_isAtName 12 = .ok (.iconst (-1), 1) := by decide +kernel
theorem dX3_isAtName_13 : decode cX3_isAtName 13 = .ok (.if_icmp .eq 7, 3) := by decide +kernel
theorem dX3_isAtName_16 : decode cX3_isAtName 16 = .ok (.iconst 1, 1) := by decide +kernel
theorem dX3_isAtName_17 : decode cX3_isAtName 17 = .ok (.goto 4, 3) := by decide +kernel
theorem dX3_isAtName_21 : decode cX3_isAtName 21 = .ok (.ireturn, 1) := by decide +kernel
theorem dX3_fail_0 : decode cX3_fail 0 = .ok (.aload_n 0, 1) := by decide +kernel
theorem dX3_fail_1 : decode cX3_fail 1 = .ok (.iload_n 1, 1) := by decide +kernel
theorem dX3_fail_2 : decode cX3_fail 2 = .ok (.aload_n 0, 1) := by decide +kernel
theorem dX3_fail_3 : decode cX3_fail 3 = .ok (.getfield 23, 3) := by decide +kernel
theorem dX3_fail_6 : decode cX3_fail 6 = .ok (.invokevirtual 126, 3) := by decide +kernel
theorem dX3_fail_9 : decode cX3_fail 9 = .ok (.ireturn, 1) := by decide +kernel
theorem dX3_failAt_0 : decode cX3_failAt 0 = .ok (.aload_n 0, 1) := by decide +kernel
theorem dX3_failAt_1 : decode cX3_failAt 1 = .ok (.iload_n 1, 1) := by decide +kernel
theorem dX3_failAt_2 : decode cX3_failAt 2 = .ok (.putfield 32, 3) := by decide +kernel
theorem dX3_failAt_5 : decode cX3_failAt 5 = .ok (.aload_n 0, 1) := by decide +kernel
theorem dX3_failAt_6 : decode cX3_failAt 6 = .ok (.iload_n 2, 1) := by decide +kernel
theorem dX3_failAt_7 : decode cX3_failAt 7 = .ok (.putfield 35, 3) := by decide +kernel
theorem dX3_failAt_10 : decode cX3_failAt 10 = .ok (.iconst 0, 1) := by decide +kernel
theorem dX3_failAt_11 : decode cX3_failAt 11 = .ok (.ireturn, 1) := by decide +kernel
theorem dX3_toNextToken_0 : decode cX3_toNextToken 0 = .ok (.aload_n 0, 1) := by decide +kernel
theorem dX3_toNextToken_1 : decode cX3_toNextToken 1 = .ok (.aload_n 0, 1) := by decide +kernel
theorem dX3_toNextToken_2 : decode cX3_toNextToken 2 = .ok (.getfield 26, 3) := by decide +kernel
theorem dX3_toNextToken_5 : decode cX3_toNextToken 5 = .ok (.putfield 23, 3) := by decide +kernel
theorem dX3_toNextToken_8 : decode cX3_toNextToken 8 = .ok (.aload_n 0, 1) := by decide +kernel
theorem dX3_toNextToken_9 : decode cX3_toNextToken 9 = .ok (.getfield 23, 3) := by decide +kernel
theorem dX3_toNextToken_12 : decode cX3_toNextToken 12 = .ok (.aload_n 0, 1) := by decide +kernel
theorem dX3_toNextToken_13 : decode cX3_toNextToken 13 = .ok (.getfield 9, 3) := by decide +kernel
theorem dX3_toNextToken_16 : decode cX3_toNextToken 16 = .ok (.invokevirtual 154, 3) := by decide +kernel
theorem dX3_toNextToken_19 : decode cX3_toNextToken 19 = .ok (.if_icmp .ge 33, 3) := by decide +kernel
theorem dX3_toNextToken_22 : decode cX3_toNextToken 22 = .ok (.aload_n 0, 1) := by decide +kernel
theorem dX3_toNextToken_23 : decode cX3_toNextToken 23 = .ok (.getfield 9, 3) := by decide +kernel
theorem dX3_toNextToken_26 : decode cX3_toNextToken 26 = .ok (.aload_n 0, 1) := by decide +kernel
theorem dX3_toNextToken_27 : decode cX3_toNextToken 27 = .ok (.getfield 23, 3) := by decide +kernel
theorem dX3_toNextToken_30 : decode cX3_toNextToken 30 = .ok (.invokevirtual 155, 3) := by decide +kernel
theorem dX3_toNextToken_33 : decode cX3_toNextToken 33 = .ok (.invokestatic 159, 3) := by decide +kernel
theorem dX3_toNextToken_36 : decode cX3_toNextToken 36 = .ok (.ifCond .eq 16, 3) := by decide +kernel
theorem dX3_toNextToken_39 : decode cX3_toNextToken 39 = .ok (.aload_n 0, 1) := by decide +kernel
theorem dX3_toNextToken_40 : decode cX3_toNextToken 40 = .ok (.dup, 1) := by decide +kernel
theorem dX3_toNextToken_41 : decode cX3_toNextToken 41 = .ok (.getfield 23, 3) := by decide +kernel
theorem dX3_toNextToken_44 : decode cX3_toNextToken 44 = .ok (.iconst 1, 1) := by decide +kernel
theorem dX3_toNextToken_45 : decode cX3_toNextToken 45 = .ok (.iadd, 1) := by decide +kernel
theorem dX3_toNextToken_46 : decode cX3_toNextToken 46 = .ok (.putfield 23, 3) := by decide +kernel
theorem dX3_toNextToken_49 : decode cX3_toNextToken 49 = .ok (.goto (-41), 3) := by decide +kernel
theorem dX3_toNextToken_52 : decode cX3_toNextToken 52 = .ok (.aload_n 0, 1) := by decide +kernel
theorem dX3_toNextToken_53 : decode cX3_toNextToken 53 = .ok (.getfield 9, 3) := by decide +kernel
theorem dX3_toNextToken_56 : decode cX3_toNextToken 56 = .ok (.aload_n 0, 1) := by decide +kernel
theorem dX3_toNextToken_57 : decode cX3_toNextToken 57 = .ok (.getfield 23, 3) := by decide +kernel
theorem dX3_toNextToken_60 : decode cX3_toNextToken 60 = .ok (.invokevirtual 155, 3) := by decide +kernel
theorem dX3_toNextToken_63 : decode cX3_toNextToken 63 = .ok (.istore_n 1, 1) := by decide +kernel
theorem dX3_toNextToken_64 : decode cX3_toNextToken 64 = .ok (.iload_n 1, 1) := by decide +kernel
theorem dX3_toNextToken_65 : decode cX3_toNextToken 65 = .ok (.iconst (-1), 1) := by decide +kernel
theorem dX3_toNextToken_66 : decode cX3_toNextToken 66 = .ok (.if_icmp .ne 19, 3) := by decide +kernel
theorem dX3_toNextToken_69 : decode cX3_toNextToken 69 = .ok (.aload_n 0, 1) := by decide +kernel
theorem dX3_toNextToken_70 : decode cX3_toNextToken 70 = .ok (.iconst 0, 1) := by decide +kernel
theorem dX3_toNextToken_71 : decode cX3_toNextToken 71 = .ok (.putfield 19, 3) := by decide +kernel
theorem dX3_toNextToken_74 : decode cX3_toNextToken 74 = .ok (.aload_n 0, 1) := by decide +kernel
theorem dX3_toNextToken_75 : decode cX3_toNextToken 75 = .ok (.aload_n 0, 1) := by decide +kernel
theorem dX3_toNextToken_76 : decode cX3_toNextToken 76 = .ok (.getfield 23, 3) := by decide +kernel
theorem dX3_toNextToken_79 : decode cX3_toNextToken 79 = .ok (.putfield 26, 3) := by decide +kernel
theorem dX3_toNextToken_82 : decode cX3_toNextToken 82 = .ok (.goto 130, 3) := by decide +kernel
theorem dX3_toNextToken_85 : decode cX3_toNextToken 85 = .ok (.iload_n 1, 1) := by decide +kernel
theorem dX3_toNextToken_86 : decode cX3_toNextToken 86 = .ok (.invokestatic 162, 3) := by decide +kernel
theorem dX3_toNextToken_89 : decode cX3_toNextToken 89 = .ok (.ifCond .eq 38, 3) := by decide +kernel
theorem dX3_toNextToken_92 : decode cX3_toNextToken 92 = .ok (.aload_n 0, 1) := by decide +kernel
theorem dX3_toNextToken_93 : decode cX3_toNextToken 93 = .ok (.iconst 1, 1) := by decide +kernel
theorem dX3_toNextToken_94 : decode cX3_toNextToken 94 = .ok (.putfield 19, 3) := by decide +kernel
theorem dX3_toNextToken_97 : decode cX3_toNextToken 97 = .ok (.aload_n 0, 1) := by decide +kernel
theorem dX3_toNextToken_98 : decode cX3_toNextToken 98 = .ok (.aload_n 0, 1) := by decide +kernel
theorem dX3_toNextToken_99 : decode cX3_toNextToken 99 = .ok (.invokevirtual 165, 3) := by decide +kernel
theorem dX3_toNextToken_102 : decode cX3_toNextToken 102 = .ok (.putfield 26, 3) := by decide +kernel
theorem dX3_toNextToken_105 : decode cX3_toNextToken 105 = .ok (.aload_n 0, 1) := by decide +kernel
theorem dX3_toNextToken_106 : decode cX3_toNextToken 106 = .ok (.aload_n 0, 1) := by decide +kernel
theorem dX3_toNextToken_107 : decode cX3_toNextToken 107 = .ok (.getfield 9, 3) := by decide +kernel
theorem dX3_toNextToken_110 : decode cX3_toNextToken 110 = .ok (.aload_n 0, 1) := by decide +kernel
theorem dX3_toNextToken_111 : decode cX3_toNextToken 111 = .ok (.getfield 23, 3) := by decide +kernel
theorem dX3_toNextToken_114 : decode cX3_toNextToken 114 = .ok (.aload_n 0, 1) := by decide +kernel
theorem dX3_toNextToken_115 : decode cX3_toNextToken 115 = .ok (.getfield 26, 3) := by decide +kernel
theorem dX3_toNextToken_118 : decode cX3_toNextToken 118 = .ok (.invokevirtual 168, 3) := by decide +kernel
theorem dX3_toNextToken_121 : decode cX3_toNextToken 121 = .ok (.putfield 29, 3) := by decide +kernel
theorem dX3_toNextToken_124 : decode cX3_toNextToken 124 = .ok (.goto 88, 3) := by decide +kernel
theorem dX3_toNextToken_127 : decode cX3_toNextToken 127 = .ok (.iload_n 1, 1) := by decide +kernel
theorem dX3_toNextToken_128 : decode cX3_toNextToken 128 = .ok (.invokestatic 171, 3) := by decide +kernel
theorem dX3_toNextToken_131 : decode cX3_toNextToken 131 = .ok (.ifCond .eq 56, 3) := by decide +kernel
theorem dX3_toNextToken_134 : decode cX3_toNextToken 134 = .ok (.aload_n 0, 1) := by decide +kernel
theorem dX3_toNextToken_135 : decode cX3_toNextToken 135 = .ok (.aload_n 0, 1) := by decide +kernel
theorem dX3_toNextToken_136 : decode cX3_toNextToken 136 = .ok (.invokevirtual 174, 3) := by decide +kernel
theorem dX3_toNextToken_139 : decode cX3_toNextToken 139 = .ok (.putfield 26, 3) := by decide +kernel
theorem dX3_toNextToken_142 : decode cX3_toNextToken 142 = .ok (.aload_n 0, 1) := by decide +kernel
theorem dX3_toNextToken_143 : decode cX3_toNextToken 143 = .ok (.aload_n 0, 1) := by decide +kernel
theorem dX3_toNextToken_144 : decode cX3_toNextToken 144 = .ok (.getfield 26, 3) := by decide +kernel
theorem dX3_toNextToken_147 : decode cX3_toNextToken 147 = .ok (.aload_n 0, 1) := by decide +kernel
theorem dX3_toNextToken_148 : decode cX3_toNextToken 148 = .ok (.getfield 23, 3) := by decide +kernel
theorem dX3_toNextToken_151 : decode cX3_toNextToken 151 = .ok (.isub, 1) := by decide +kernel
theorem dX3_toNextToken_152 : decode cX3_toNextToken 152 = .ok (.iconst 4, 1) := by decide +kernel
theorem dX3_toNextToken_153 : decode cX3_toNextToken 153 = .ok (.if_icmp .le 7, 3) := by decide +kernel
theorem dX3_toNextToken_156 : decode cX3_toNextToken 156 = .ok (.iconst 4, 1) := by decide +kernel
theorem dX3_toNextToken_157 : decode cX3_toNextToken 157 = .ok (.goto 4, 3) := by decide +kernel
theorem dX3_toNextToken_160 : decode cX3_toNextToken 160 = .ok (.iconst 2, 1) := by decide +kernel
theorem dX3_toNextToken_161 : decode cX3_toNextToken 161 = .ok (.putfield 19, 3) := by decide +kernel
theorem dX3_toNextToken_164 : decode cX3_toNextToken 164 = .ok (.aload_n 0, 1) := by decide +kernel
theorem dX3_toNextToken_165 : decode cX3_toNextToken 165 = .ok (.aload_n 0, 1) := by decide +kernel
theorem dX3_toNextToken_166 : decode cX3_toNextToken 166 = .ok (.getfield 19, 3) := by decide +kernel
theorem dX3_toNextToken_169 : decode cX3_toNextToken 169 = .ok (.iconst 2, 1) := by decide +kernel
theorem dX3_toNextToken_170 : decode cX3_toNextToken 170 = .ok (.if_icmp .ne 10, 3) := by decide +kernel
theorem dX3_toNextToken_173 : decode cX3_toNextToken 173 = .ok (.aload_n 0, 1) := by decide +kernel
theorem dX3_toNextToken_174 : decode cX3_toNextToken 174 = .ok (.invokevirtual 177, 3) := by decide +kernel
theorem dX3_toNextToken_177 : decode cX3_toNextToken 177 = .ok (.goto 4, 3) := by decide +kernel
theorem dX3_toNextToken_181 : decode cX3_toNextToken 181 = .ok (.putfield 29, 3) := by decide +kernel
theorem dX3_toNextToken_184 : decode cX3_toNextToken 184 = .ok (.goto 28, 3) := by decide +kernel
theorem dX3_toNextToken_187 : decode cX3_toNextToken 187 = .ok (.aload_n 0, 1) := by decide +kernel
theorem dX3_toNextToken_188 : decode cX3_toNextToken 188 = .ok (.iload_n 1, 1) := by decide +kernel
theorem dX3_toNextToken_189 : decode cX3_toNextToken 189 = .ok (.bipush 59, 2) := by decide +kernel
theorem dX3_toNextToken_191 : decode cX3_toNextToken 191 = .ok (.if_icmp .ne 7, 3) := by decide +kernel
theorem dX3_toNextToken_194 : decode cX3_toNextToken 194 = .ok (.iconst 3, 1) := by decide +kernel
theorem dX3_toNextToken_195 : decode cX3_toNextToken 195 = .ok (.goto 4, 3) := by decide +kernel
theorem dX3_toNextToken_199 : decode cX3_toNextToken 199 = .ok (.putfield 19, 3) := by decide +kernel
theorem dX3_toNextToken_202 : decode cX3_toNextToken 202 = .ok (.aload_n 0, 1) := by decide +kernel
theorem dX3_toNextToken_203 : decode cX3_toNextToken 203 = .ok (.aload_n 0, 1) := by decide +kernel
theorem dX3_toNextToken_204 : decode cX3_toNextToken 204 = .ok (.getfield 23, 3) := by decide +kernel
theorem dX3_toNextToken_207 : decode cX3_toNextToken 207 = .ok (.iconst 1, 1) := by decide +kernel
theorem dX3_toNextToken_208 : decode cX3_toNextToken 208 = .ok (.iadd, 1) := by decide +kernel
theorem dX3_toNextToken_209 : decode cX3_toNextToken 209 = .ok (.putfield 26, 3) := by decide +kernel
theorem dX3_toNextToken_212 : decode cX3_toNextToken 212 = .ok (.return_, 1) := by decide +kernel
theorem dX3_endOfWord_0 : decode cX3_endOfWord 0 = .ok (.aload_n 0, 1) := by decide +kernel
theorem dX3_endOfWord_1 : decode cX3_endOfWord 1 = .ok (.getfield 23, 3) := by decide +kernel
theorem dX3_endOfWord_4 : decode cX3_endOfWord 4 = .ok (.istore_n 1, 1) := by decide +kernel
theorem dX3_endOfWord_5 : decode cX3_endOfWord 5 = .ok (.iload_n 1, 1) := by decide +kernel
theorem dX3_endOfWord_6 : decode cX3_endOfWord 6 = .ok (.aload_n 0, 1) := by decide +kernel
theorem dX3_endOfWord_7 : decode cX3_endOfWord 7 = .ok (.getfield 9, 3) := by decide +kernel
theorem dX3_endOfWord_10 : decode cX3_endOfWord 10 = .ok (.invokevirtual 154, 3) := by decide +kernel
theorem dX3_endOfWord_13 : decode cX3_endOfWord 13 = .ok (.if_icmp .ge 23, 3) := by decide +kernel
theorem dX3_endOfWord_16 : decode cX3_endOfWord 16 = .ok (.aload_n 0, 1) := by decide +kernel
theorem dX3_endOfWord_17 : decode cX3_endOfWord 17 = .ok (.getfield 9, 3) := by decide +kernel
theorem dX3_endOfWord_20 : decode cX3_endOfWord 20 = .ok (.iload_n 1, 1) := by decide +kernel
theorem dX3_endOfWord_21 : decode cX3_endOfWord 21 = .ok (.invokevirtual 155, 3) := by decide +kernel
theorem dX3_endOfWord_24 : decode cX3_endOfWord 24 = .ok (.invokestatic 162, 3) := by decide +kernel
theorem dX3_endOfWord_27 : decode cX3_endOfWord 27 = .ok (.ifCond .eq 9, 3) := by decide +kernel
theorem dX3_endOfWord_30 : decode cX3_endOfWord 30 = .ok (.iinc 1 1, 3) := by decide +kernel
theorem dX3_endOfWord_33 : decode cX3_endOfWord 33 = .ok (.goto (-28), 3) := by decide +kernel
theorem dX3_endOfWord_36 : decode cX3_endOfWord 36 = .ok (.iload_n 1, 1) := by decide +kernel
theorem dX3_endOfWord_37 : decode cX3_endOfWord 37 = .ok (.ireturn, 1) := by decide +kernel
theorem dX3_endOfDigits_0 : decode cX3_endOfDigits 0 = .ok (.aload_n 0, 1) := by decide +kernel
theorem dX3_endOfDigits_1 : decode cX3_endOfDigits 1 = .ok (.getfield 23, 3) := by decide +kernel
theorem dX3_endOfDigits_4 : decode cX3_endOfDigits 4 = .ok (.istore_n 1, 1) := by decide +kernel
theorem dX3_endOfDigits_5 : decode cX3_endOfDigits 5 = .ok (.iload_n 1, 1) := by decide +kernel
theorem dX3_endOfDigits_6 : decode cX3_endOfDigits 6 = .ok (.aload_n 0, 1) := by decide +kernel
theorem dX3_endOfDigits_7 : decode cX3_endOfDigits 7 = .ok (.getfield 9, 3) := by decide +kernel
theorem dX3_endOfDigits_10 : decode cX3_endOfDigits 10 = .ok (.invokevirtual 154, 3) := by decide +kernel
theorem dX3_endOfDigits_13 : decode cX3_endOfDigits 13 = .ok (.if_icmp .ge 23, 3) := by decide +kernel
theorem dX3_endOfDigits_16 : decode cX3_endOfDigits 16 = .ok (.aload_n 0, 1) := by decide +kernel
theorem dX3_endOfDigits_17 : decode cX3_endOfDigits 17 = .ok (.getfield 9, 3) := by decide +kernel
theorem dX3_endOfDigits_20 : decode cX3_endOfDigits 20 = .ok (.iload_n 1, 1) := by decide +kernel
theorem dX3_endOfDigits_21 : decode cX3_endOfDigits 21 = .ok (.invokevirtual 155, 3) := by decide +kernel
theorem dX3_endOfDigits_24 : decode cX3_endOfDigits 24 = .ok (.invokestatic 171, 3) := by decide +kernel
theorem dX3_endOfDigits_27 : decode cX3_endOfDigits 27 = .ok (.ifCond .eq 9, 3) := by decide +kernel
theorem dX3_endOfDigits_30 : decode cX3_endOfDigits 30 = .ok (.iinc 1 1, 3) := by decide +kernel
theorem dX3_endOfDigits_33 : decode cX3_endOfDigits 33 = .ok (.goto (-28), 3) := by decide +kernel
theorem dX3_endOfDigits_36 : decode cX3_endOfDigits 36 = .ok (.iload_n 1, 1) := by decide +kernel
theorem dX3_endOfDigits_37 : decode cX3_endOfDigits 37 = .ok (.ireturn, 1) := by decide +kernel
theorem dX3_valueOfDigits_0 : decode cX3_valueOfDigits 0 = .ok (.iconst 0, 1) := by decide +kernel
theorem dX3_valueOfDigits_1 : decode cX3_valueOfDigits 1 = .ok (.istore_n 1, 1) := by decide +kernel
theorem dX3_valueOfDigits_2 : decode cX3_valueOfDigits 2 = .ok (.aload_n 0, 1) := by decide +kernel
theorem dX3_valueOfDigits_3 : decode cX3_valueOfDigits 3 = .ok (.getfield 23, 3) := by decide +kernel
theorem dX3_valueOfDigits_6 : decode cX3_valueOfDigits 6 = .ok (.istore_n 2, 1) := by decide +kernel
theorem dX3_valueOfDigits_7 : decode cX3_valueOfDigits 7 = .ok (.iload_n 2, 1) := by decide +kernel
theorem dX3_valueOfDigits_8 : decode cX3_valueOfDigits 8 = .ok (.aload_n 0, 1) := by decide +kernel
theorem dX3_valueOfDigits_9 : decode cX3_valueOfDigits 9 = .ok (.getfield 26, 3) := by decide +kernel
theorem dX3_valueOfDigits_12 : decode cX3_valueOfDigits 12 = .ok (.if_icmp .ge 26, 3) := by decide +kernel
theorem dX3_valueOfDigits_15 : decode cX3_valueOfDigits 15 = .ok (.iload_n 1, 1) := by decide +kernel
theorem dX3_valueOfDigits_16 : decode cX3_valueOfDigits 16 = .ok (.bipush 10, 2) := by decide +kernel
theorem dX3_valueOfDigits_18 : decode cX3_valueOfDigits 18 = .ok (.imul, 1) := by decide +kernel
theorem dX3_valueOfDigits_19 : decode cX3_valueOfDigits 19 = .ok (.aload_n 0, 1) := by decide +kernel
theorem dX3_valueOfDigits_20 : decode cX3_valueOfDigits 20 = .ok (.getfield 9, 3) := by decide +kernel
theorem dX3_valueOfDigits_23 : decode cX3_valueOfDigits 23 = .ok (.iload_n 2, 1) := by decide +kernel
theorem dX3_valueOfDigits_24 : decode cX3_valueOfDigits 24 = .ok (.invokevirtual 155, 3) := by decide +kernel
theorem dX3_valueOfDigits_27 : decode cX3_valueOfDigits 27 = .ok (.iadd, 1) := by decide +kernel
theorem dX3_valueOfDigits_28 : decode cX3_valueOfDigits 28 = .ok (.bipush 48, 2) := by decide +kernel
theorem dX3_valueOfDigits_30 : decode cX3_valueOfDigits 30 = .ok (.isub, 1) := by decide +kernel
theorem dX3_valueOfDigits_31 : decode cX3_valueOfDigits 31 = .ok (.istore_n 1, 1) := by decide +kernel
theorem dX3_valueOfDigits_32 : decode cX3_valueOfDigits 32 = .ok (.iinc 2 1, 3) := by decide +kernel
theorem dX3_valueOfDigits_35 : decode cX3_valueOfDigits 35 = .ok (.goto (-28), 3) := by decide +kernel
theorem dX3_valueOfDigits_38 : decode cX3_valueOfDigits 38 = .ok (.iload_n 1, 1) := by decide +kernel
theorem dX3_valueOfDigits_39 : decode cX3_valueOfDigits 39 = .ok (.ireturn, 1) := by decide +kernel
theorem dX3_isBlank_0 : decode cX3_isBlank 0 = .ok (.iload_n 0, 1) := by decide +kernel
theorem dX3_isBlank_1 : decode cX3_isBlank 1 = .ok (.bipush 10, 2) := by decide +kernel
theorem dX3_isBlank_3 : decode cX3_isBlank 3 = .ok (.if_icmp .eq 9, 3) := by decide +kernel
theorem dX3_isBlank_6 : decode cX3_isBlank 6 = .ok (.iload_n 0, 1) := by decide +kernel
theorem dX3_isBlank_7 : decode cX3_isBlank 7 = .ok (.bipush 32, 2) := by decide +kernel
theorem dX3_isBlank_9 : decode cX3_isBlank 9 = .ok (.if_icmp .ne 7, 3) := by decide +kernel
theorem dX3_isBlank_12 : decode cX3_isBlank 12 = .ok (.iconst 1, 1) := by decide +kernel
theorem dX3_isBlank_13 : decode cX3_isBlank 13 = .ok (.goto 4, 3) := by decide +kernel
theorem dX3_isBlank_16 : decode cX3_isBlank 16 = .ok (.iconst 0, 1) := by decide +kernel
theorem dX3_isBlank_17 : decode cX3_isBlank 17 = .ok (.ireturn, 1) := by decide +kernel
theorem dX3_isLetter_0 : decode cX3_isLetter 0 = .ok (.iload_n 0, 1) := by decide +kernel
theorem dX3_isLetter_1 : decode cX3_isLetter 1 = .ok (.bipush 97, 2) := by decide +kernel
theorem dX3_isLetter_3 : decode cX3_isLetter 3 = .ok (.if_icmp .lt 13, 3) := by decide +kernel
theorem dX3_isLetter_6 : decode cX3_isLetter 6 = .ok (.iload_n 0, 1) := by decide +kernel
theorem dX3_isLetter_7 : decode cX3_isLetter 7 = .ok (.bipush 122, 2) := by decide +kernel
theorem dX3_isLetter_9 : decode cX3_isLetter 9 = .ok (.if_icmp .gt 7, 3) := by decide +kernel
theorem dX3_isLetter_12 : decode cX3_isLetter 12 = .ok (.iconst 1, 1) := by decide +kernel
theorem dX3_isLetter_13 : decode cX3_isLetter 13 = .ok (.goto 4, 3) := by decide +kernel
theorem dX3_isLetter_16 : decode cX3_isLetter 16 = .ok (.iconst 0, 1) := by decide +kernel
theorem dX3_isLetter_17 : decode cX3_isLetter 17 = .ok (.ireturn, 1) := by decide +kernel
theorem dX3_isDigit_0 : decode cX3_isDigit 0 = .ok (.iload_n 0, 1) := by decide +kernel
theorem dX3_isDigit_1 : decode cX3_isDigit 1 = .ok (.bipush 48, 2) := by decide +kernel
theorem dX3_isDigit_3 : decode cX3_isDigit 3 = .ok (.if_icmp .lt 13, 3) := by decide +kernel
theorem dX3_isDigit_6 : decode cX3_isDigit 6 = .ok (.iload_n 0, 1) := by decide +kernel
theorem dX3_isDigit_7 : decode cX3_isDigit 7 = .ok (.bipush 57, 2) := by decide +kernel
theorem dX3_isDigit_9 : decode cX3_isDigit 9 = .ok (.if_icmp .gt 7, 3) := by decide +kernel
theorem dX3_isDigit_12 : decode cX3_isDigit 12 = .ok (.iconst 1, 1) := by decide +kernel
theorem dX3_isDigit_13 : decode cX3_isDigit 13 = .ok (.goto 4, 3) := by decide +kernel
theorem dX3_isDigit_16 : decode cX3_isDigit 16 = .ok (.iconst 0, 1) := by decide +kernel
theorem dX3_isDigit_17 : decode cX3_isDigit 17 = .ok (.ireturn, 1) := by decide +kernel
theorem dX4_init_0 : decode cX4_init 0 = .ok (.aload_n 0, 1) := by decide +kernel
theorem dX4_init_1 : decode cX4_init 1 = .ok (.invokespecial 3, 3) := by decide +kernel
theorem dX4_init_4 : decode cX4_init 4 = .ok (.aload_n 0, 1) := by decide +kernel
theorem dX4_init_5 : decode cX4_init 5 = .ok (.iload_n 1, 1) := by decide +kernel
theorem dX4_init_6 : decode cX4_init 6 = .ok (.putfield 9, 3) := by decide +kernel
theorem dX4_init_9 : decode cX4_init 9 = .ok (.aload_n 0, 1) := by decide +kernel
theorem dX4_init_10 : decode cX4_init 10 = .ok (.iload_n 3, 1) := by decide +kernel
theorem dX4_init_11 : decode cX4_init 11 = .ok (.putfield 15, 3) := by decide +kernel
theorem dX4_init_14 : decode cX4_init 14 = .ok (.aload_n 0, 1) := by decide +kernel
theorem dX4_init_15 : decode cX4_init 15 = .ok (.iconst 0, 1) := by decide +kernel
theorem dX4_init_16 : decode cX4_init 16 = .ok (.iload_n 1, 1) := by decide +kernel
theorem dX4_init_17 : decode cX4_init 17 = .ok (.iload_n 2, 1) := by decide +kernel
theorem dX4_init_18 : decode cX4_init 18 = .ok (.imul, 1) := by decide +kernel
theorem dX4_init_19 : decode cX4_init 19 = .ok (.invokestatic 18, 3) := by decide +kernel
theorem dX4_init_22 : decode cX4_init 22 = .ok (.newarray .int, 2) := by decide +kernel
theorem dX4_init_24 : decode cX4_init 24 = .ok (.putfield 24, 3) := by decide +kernel
theorem dX4_init_27 : decode cX4_init 27 = .ok (.aload_n 0, 1) := by decide +kernel
theorem dX4_init_28 : decode cX4_init 28 = .ok (.iconst 0, 1) := by decide +kernel
theorem dX4_init_29 : decode cX4_init 29 = .ok (.putfield 28, 3) := by decide +kernel
theorem dX4_init_32 : decode cX4_init 32 = .ok (.return_, 1) := by decide +kernel
theorem dX4_size_0 : decode cX4_size 0 = .ok (.aload_n 0, 1) := by decide +kernel
theorem dX4_size_1 : decode cX4_size 1 = .ok (.getfield 28, 3) := by decide +kernel
theorem dX4_size_4 : decode cX4_size 4 = .ok (.ireturn, 1) := by decide +kernel
theorem dX4_at_0 : decode cX4_at 0 = .ok (.iload_n 1, 1) := by decide +kernel
theorem dX4_at_1 : decode cX4_at 1 = .ok (.aload_n 0, 1) := by decide +kernel
theorem dX4_at_2 : decode cX4_at 2 = .ok (.getfield 9, 3) := by decide +kernel
theorem dX4_at_5 : decode cX4_at 5 = .ok (.imul, 1) := by decide +kernel
theorem dX4_at_6 : decode cX4_at 6 = .ok (.iload_n 2, 1) := by decide +kernel
theorem dX4_at_7 : decode cX4_at 7 = .ok (.iadd, 1) := by decide +kernel
theorem dX4_at_8 : decode cX4_at 8 = .ok (.istore_n 3, 1) := by decide +kernel
theorem dX4_at_9 : decode cX4_at 9 = .ok (.iload_n 1, 1) := by decide +kernel
theorem dX4_at_10 : decode cX4_at 10 = .ok (.ifCond .lt 27, 3) := by decide +kernel
theorem dX4_at_13 : decode cX4_at 13 = .ok (.iload_n 1, 1) := by decide +kernel
theorem dX4_at_14 : decode cX4_at 14 = .ok (.aload_n 0, 1) := by decide +kernel
theorem dX4_at_15 : decode cX4_at 15 = .ok (.getfield 28, 3) := by decide +kernel
theorem dX4_at_18 : decode cX4_at 18 = .ok (.if_icmp .ge 19, 3) := by decide +kernel
theorem dX4_at_21 : decode cX4_at 21 = .ok (.iload_n 2, 1) := by decide +kernel
theorem dX4_at_22 : decode cX4_at 22 = .ok (.ifCond .lt 15, 3) := by decide +kernel
theorem dX4_at_25 : decode cX4_at 25 = .ok (.iload_n 2, 1) := by decide +kernel
theorem dX4_at_26 : decode cX4_at 26 = .ok (.aload_n 0, 1) := by decide +kernel
theorem dX4_at_27 : decode cX4_at 27 = .ok (.getfield 9, 3) := by decide +kernel
theorem dX4_at_30 : decode cX4_at 30 = .ok (.if_icmp .ge 7, 3) := by decide +kernel
theorem dX4_at_33 : decode cX4_at 33 = .ok (.iconst 1, 1) := by decide +kernel
theorem dX4_at_34 : decode cX4_at 34 = .ok (.goto 4, 3) := by decide +kernel
theorem dX4_at_37 : decode cX4_at 37 = .ok (.iconst 0, 1) := by decide +kernel
theorem dX4_at_38 : decode cX4_at 38 = .ok (.istore 4, 2) := by decide +kernel
theorem dX4_at_40 : decode cX4_at 40 = .ok (.iload 4, 2) := by decide +kernel
theorem dX4_at_42 : decode cX4_at 42 = .ok (.ifCond .eq 25, 3) := by decide +kernel
theorem dX4_at_45 : decode cX4_at 45 = .ok (.iload_n 3, 1) := by decide +kernel
theorem dX4_at_46 : decode cX4_at 46 = .ok (.ifCond .lt 21, 3) := by decide +kernel
theorem dX4_at_49 : decode cX4_at 49 = .ok (.iload_n 3, 1) := by decide +kernel
theorem dX4_at_50 : decode cX4_at 50 = .ok (.aload_n 0, 1) := by decide +kernel
theorem dX4_at_51 : decode cX4_at 51 = .ok (.getfield 24, 3) := by decide +kernel
theorem dX4_at_54 : decode cX4_at 54 = .ok (.arraylength, 1) := by decide +kernel
theorem dX4_at_55 : decode cX4_at 55 = .ok (.if_icmp .ge 12, 3) := by decide +kernel
theorem dX4_at_58 : decode cX4_at 58 = .ok (.aload_n 0, 1) := by decide +kernel
theorem dX4_at_59 : decode cX4_at 59 = .ok (.getfield 24, 3) := by decide +kernel
theorem dX4_at_62 : decode cX4_at 62 = .ok (.iload_n 3, 1) := by decide +kernel
theorem dX4_at_63 : decode cX4_at 63 = .ok (.iaload, 1) := by decide +kernel
theorem dX4_at_64 : decode cX4_at 64 = .ok (.goto 4, 3) := by decide +kernel
theorem dX4_at_67 : decode cX4_at 67 = .ok (.iconst (-1), 1) := by decide +kernel
theorem dX4_at_68 : decode cX4_at 68 = .ok (.ireturn, 1) := by decide +kernel
theorem dX4_put_0 : decode cX4_put 0 = .ok (.iload_n 1, 1) := by decide +kernel
theorem dX4_put_1 : decode cX4_put 1 = .ok (.aload_n 0, 1) := by decide +kernel
theorem dX4_put_2 : decode cX4_put 2 = .ok (.getfield 9, 3) := by decide +kernel
theorem dX4_put_5 : decode cX4_put 5 = .ok (.imul, 1) := by decide +kernel
theorem dX4_put_6 : decode cX4_put 6 = .ok (.iload_n 2, 1) := by decide +kernel
theorem dX4_put_7 : decode cX4_put 7 = .ok (.iadd, 1) := by decide +kernel
theorem dX4_put_8 : decode cX4_put 8 = .ok (.istore 4, 2) := by decide +kernel
theorem dX4_put_10 : decode cX4_put 10 = .ok (.iload_n 1, 1) := by decide +kernel
theorem dX4_put_11 : decode cX4_put 11 = .ok (.ifCond .lt 27, 3) := by decide +kernel
theorem dX4_put_14 : decode cX4_put 14 = .ok (.iload_n 1, 1) := by decide +kernel
theorem dX4_put_15 : decode cX4_put 15 = .ok (.aload_n 0, 1) := by decide +kernel
theorem dX4_put_16 : decode cX4_put 16 = .ok (.getfield 28, 3) := by decide +kernel
theorem dX4_put_19 : decode cX4_put 19 = .ok (.if_icmp .ge 19, 3) := by decide +kernel
theorem dX4_put_22 : decode cX4_put 22 = .ok (.iload_n 2, 1) := by decide +kernel
theorem dX4_put_23 : decode cX4_put 23 = .ok (.ifCond .lt 15, 3) := by decide +kernel
theorem dX4_put_26 : decode cX4_put 26 = .ok (.iload_n 2, 1) := by decide +kernel
theorem dX4_put_27 : decode cX4_put 27 = .ok (.aload_n 0, 1) := by decide +kernel
theorem dX4_put_28 : decode cX4_put 28 = .ok (.getfield 9, 3) := by decide +kernel
theorem dX4_put_31 : decode cX4_put 31 = .ok (.if_icmp .ge 7, 3) := by decide +kernel
theorem dX4_put_34 : decode cX4_put 34 = .ok (.iconst 1, 1) := by decide +kernel
theorem dX4_put_35 : decode cX4_put 35 = .ok (.goto 4, 3) := by decide +kernel
theorem dX4_put_39 : decode cX4_put 39 = .ok (.istore 5, 2) := by decide +kernel
theorem dX4_put_41 : decode cX4_put 41 = .ok (.iload 5, 2) := by decide +kernel
theorem dX4_put_43 : decode cX4_put 43 = .ok (.ifCond .eq 26, 3) := by decide +kernel
theorem dX4_put_46 : decode cX4_put 46 = .ok (.iload 4, 2) := by decide +kernel
theorem dX4_put_48 : decode cX4_put 48 = .ok (.ifCond .lt 21, 3) := by decide +kernel
theorem dX4_put_51 : decode cX4_put 51 = .ok (.iload 4, 2) := by decide +kernel
theorem dX4_put_53 : decode cX4_put 53 = .ok (.aload_n 0, 1) := by decide +kernel
theorem dX4_put_54 : decode cX4_put 54 = .ok (.getfield 24, 3) := by decide +kernel
theorem dX4_put_57 : decode cX4_put 57 = .ok (.arraylength, 1) := by decide +kernel
theorem dX4_put_58 : decode cX4_put 58 = .ok (.if_icmp .ge 11, 3) := by decide +kernel
theorem dX4_put_61 : decode cX4_put 61 = .ok (.aload_n 0, 1) := by decide +kernel
theorem dX4_put_62 : decode cX4_put 62 = .ok (.getfield 24, 3) := by decide +kernel
theorem dX4_put_65 : decode cX4_put 65 = .ok (.iload 4, 2) := by decide +kernel
theorem dX4_put_67 : decode cX4_put 67 = .ok (.iload_n 3, 1) := by decide +kernel
theorem dX4_put_68 : decode cX4_put 68 = .ok (.iastore, 1) := by decide +kernel
theorem dX4_put_69 : decode cX4_put 69 = .ok (.return_, 1) := by decide +kernel
theorem dX4_increase_0 : decode cX4_increase 0 = .ok (.aload_n 0, 1) := by decide +kernel
theorem dX4_increase_1 : decode cX4_increase 1 = .ok (.iload_n 1, 1) := by decide +kernel
theorem dX4_increase_2 : decode cX4_increase 2 = .ok (.iload_n 2, 1) := by decide +kernel
theorem dX4_increase_3 : decode cX4_increase 3 = .ok (.aload_n 0, 1) := by decide +kernel
theorem dX4_increase_4 : decode cX4_increase 4 = .ok (.iload_n 1, 1) := by decide +kernel
theorem dX4_increase_5 : decode cX4_increase 5 = .ok (.iload_n 2, 1) := by decide +kernel
theorem dX4_increase_6 : decode cX4_increase 6 = .ok (.invokevirtual 31, 3) := by decide +kernel
theorem dX4_increase_9 : decode cX4_increase 9 = .ok (.i2l, 1) := by decide +kernel
theorem dX4_increase_10 : decode cX4_increase 10 = .ok (.lconst 1, 1) := by decide +kernel
theorem dX4_increase_11 : decode cX4_increase 11 = .ok (.ladd, 1) := by decide +kernel
theorem dX4_increase_12 : decode cX4_increase 12 = .ok (.invokestatic 34, 3) := by decide +kernel
theorem dX4_increase_15 : decode cX4_increase 15 = .ok (.invokevirtual 38, 3) := by decide +kernel
theorem dX4_increase_18 : decode cX4_increase 18 = .ok (.return_, 1) := by decide +kernel
theorem dX4_addRow_0 : decode cX4_addRow 0 = .ok (.aload_n 0, 1) := by decide +kernel
theorem dX4_addRow_1 : decode cX4_addRow 1 = .ok (.getfield 28, 3) := by decide +kernel
theorem dX4_addRow_4 : decode cX4_addRow 4 = .ok (.aload_n 0, 1) := by decide +kernel
theorem dX4_addRow_5 : decode cX4_addRow 5 = .ok (.getfield 15, 3) := by decide +kernel
theorem dX4_addRow_8 : decode cX4_addRow 8 = .ok (.if_icmp .lt 5, 3) := by decide +kernel
theorem dX4_addRow_11 : decode cX4_addRow 11 = .ok (.iconst (-1), 1) := by decide +kernel
theorem dX4_addRow_12 : decode cX4_addRow 12 = .ok (.ireturn, 1) := by decide +kernel
theorem dX4_addRow_13 : decode cX4_addRow 13 = .ok (.aload_n 0, 1) := by decide +kernel
theorem dX4_addRow_14 : decode cX4_addRow 14 = .ok (.getfield 28, 3) := by decide +kernel
theorem dX4_addRow_17 : decode cX4_addRow 17 = .ok (.aload_n 0, 1) := by decide +kernel
theorem dX4_addRow_18 : decode cX4_addRow 18 = .ok (.getfield 9, 3) := by decide +kernel
theorem dX4_addRow_21 : decode cX4_addRow 21 = .ok (.imul, 1) := by decide +kernel
theorem dX4_addRow_22 : decode cX4_addRow 22 = .ok (.istore_n 1, 1) := by decide +kernel
theorem dX4_addRow_23 : decode cX4_addRow 23 = .ok (.iload_n 1, 1) := by decide +kernel
theorem dX4_addRow_24 : decode cX4_addRow 24 = .ok (.aload_n 0, 1) := by decide +kernel
theorem dX4_addRow_25 : decode cX4_addRow 25 = .ok (.getfield 9, 3) := by decide +kernel
theorem dX4_addRow_28 : decode cX4_addRow 28 = .ok (.iadd, 1) := by decide +kernel
theorem dX4_addRow_29 : decode cX4_addRow 29 = .ok (.istore_n 2, 1) := by decide +kernel
theorem dX4_addRow_30 : decode cX4_addRow 30 = .ok (.iload_n 2, 1) := by decide +kernel
theorem dX4_addRow_31 : decode cX4_addRow 31 = .ok (.aload_n 0, 1) := by decide +kernel
theorem dX4_addRow_32 : decode cX4_addRow 32 = .ok (.getfield 24, 3) := by decide +kernel
theorem dX4_addRow_35 : decode cX4_addRow 35 = .ok (.arraylength, 1) := by decide +kernel
theorem dX4_addRow_36 : decode cX4_addRow 36 = .ok (.if_icmp .le 98, 3) := by decide +kernel
theorem dX4_addRow_39 : decode cX4_addRow 39 = .ok (.iload_n 2, 1) := by decide +kernel
theorem dX4_addRow_40 : decode cX4_addRow 40 = .ok (.aload_n 0, 1) := by decide +kernel
theorem dX4_addRow_41 : decode cX4_addRow 41 = .ok (.getfield 15, 3) := by decide +kernel
theorem dX4_addRow_44 : decode cX4_addRow 44 = .ok (.aload_n 0, 1) := by decide +kernel
theorem dX4_addRow_45 : decode cX4_addRow 45 = .ok (.getfield 9, 3) := by decide +kernel
theorem dX4_addRow_48 : decode cX4_addRow 48 = .ok (.imul, 1) := by decide +kernel
theorem dX4_addRow_49 : decode cX4_addRow 49 = .ok (.iload_n 2, 1) := by decide +kernel
theorem dX4_addRow_50 : decode cX4_addRow 50 = .ok (.isub, 1) := by decide +kernel
theorem dX4_addRow_51 : decode cX4_addRow 51 = .ok (.if_icmp .ge 9, 3) := by decide +kernel
theorem dX4_addRow_54 : decode cX4_addRow 54 = .ok (.iload_n 2, 1) := by decide +kernel
theorem dX4_addRow_55 : decode cX4_addRow 55 = .ok (.iconst 2, 1) := by decide +kernel
theorem dX4_addRow_56 : decode cX4_addRow 56 = .ok (.imul, 1) := by decide +kernel
theorem dX4_addRow_57 : decode cX4_addRow 57 = .ok (.goto 12, 3) := by decide +kernel
theorem dX4_addRow_134 : decode cX4_addRow 134 = .ok (.iload_n 1, 1) := by decide +kernel
theorem dX4_addRow_135 : decode cX4_addRow 135 = .ok (.istore_n 3, 1) := by decide +kernel
theorem dX4_addRow_136 : decode cX4_addRow 136 = .ok (.iload_n 3, 1) := by decide +kernel
theorem dX4_addRow_137 : decode cX4_addRow 137 = .ok (.iload_n 2, 1) := by decide +kernel
theorem dX4_addRow_138 : decode cX4_addRow 138 = .ok (.if_icmp .ge 25, 3) := by decide +kernel
theorem dX4_addRow_141 : decode cX4_addRow 141 = .ok (.iload_n 3, 1) := by decide +kernel
theorem dX4_addRow_142 : decode cX4_addRow 142 = .ok (.aload_n 0, 1) := by decide +kernel
theorem dX4_addRow_143 : decode cX4_addRow 143 = .ok (.getfield 24, 3) := by decide +kernel
theorem dX4_addRow_146 : decode cX4_addRow 146 = .ok (.arraylength, 1) := by decide +kernel
theorem dX4_addRow_147 : decode cX4_addRow 147 = .ok (.if_icmp .ge 16, 3) := by decide +kernel
theorem dX4_addRow_150 : decode cX4_addRow 150 = .ok (.aload_n 0, 1) := by decide +kernel
theorem dX4_addRow_151 : decode cX4_addRow 151 = .ok (.getfield 24, 3) := by decide +kernel
theorem dX4_addRow_154 : decode cX4_addRow 154 = .ok (.iload_n 3, 1) := by decide +kernel
theorem dX4_addRow_155 : decode cX4_addRow 155 = .ok (.iconst 0, 1) := by decide +kernel
theorem dX4_addRow_156 : decode cX4_addRow 156 = .ok (.iastore, 1) := by decide +kernel
theorem dX4_addRow_157 : decode cX4_addRow 157 = .ok (.iinc 3 1, 3) := by decide +kernel
theorem dX4_addRow_160 : decode cX4_addRow 160 = .ok (.goto (-24), 3) := by decide +kernel
theorem dX4_addRow_163 : decode cX4_addRow 163 = .ok (.aload_n 0, 1) := by decide +kernel
theorem dX4_addRow_164 : decode cX4_addRow 164 = .ok (.dup, 1) := by decide +kernel
theorem dX4_addRow_165 : decode cX4_addRow 165 = .ok (.getfield 28, 3) := by decide +kernel
theorem dX4_addRow_168 : decode cX4_addRow 168 = .ok (.iconst 1, 1) := by decide +kernel
theorem dX4_addRow_169 : decode cX4_addRow 169 = .ok (.iadd, 1) := by decide +kernel
theorem dX4_addRow_170 : decode cX4_addRow 170 = .ok (.putfield 28, 3) := by decide +kernel
theorem dX4_addRow_173 : decode cX4_addRow 173 = .ok (.aload_n 0, 1) := by decide +kernel
theorem dX4_addRow_174 : decode cX4_addRow 174 = .ok (.getfield 28, 3) := by decide +kernel
theorem dX4_addRow_177 : decode cX4_addRow 177 = .ok (.iconst 1, 1) := by decide +kernel
theorem dX4_addRow_178 : decode cX4_addRow 178 = .ok (.isub, 1) := by decide +kernel
theorem dX4_addRow_179 : decode cX4_addRow 179 = .ok (.ireturn, 1) := by decide +kernel
theorem dX4_cutTo_0 : decode cX4_cutTo 0 = .ok (.iload_n 1, 1) := by decide +kernel
theorem dX4_cutTo_1 : decode cX4_cutTo 1 = .ok (.ifCond .lt 16, 3) := by decide +kernel
theorem dX4_cutTo_4 : decode cX4_cutTo 4 = .ok (.iload_n 1, 1) := by decide +kernel
theorem dX4_cutTo_5 : decode cX4_cutTo 5 = .ok (.aload_n 0, 1) := by decide +kernel
theorem dX4_cutTo_6 : decode cX4_cutTo 6 = .ok (.getfield 28, 3) := by decide +kernel
theorem dX4_cutTo_9 : decode cX4_cutTo 9 = .ok (.if_icmp .ge 8, 3) := by decide +kernel
theorem dX4_cutTo_12 : decode cX4_cutTo 12 = .ok (.aload_n 0, 1) := by decide +kernel
theorem dX4_cutTo_13 : decode cX4_cutTo 13 = .ok (.iload_n 1, 1) := by decide +kernel
theorem dX4_cutTo_14 : decode cX4_cutTo 14 = .ok (.putfield 28, 3) := by decide +kernel
theorem dX4_cutTo_17 : decode cX4_cutTo 17 = .ok (.return_, 1) := by decide +kernel
theorem dX4_clear_0 : decode cX4_clear 0 = .ok (.aload_n 0, 1) := by decide +kernel
theorem dX4_clear_1 : decode cX4_clear 1 = .ok (.iconst 0, 1) := by decide +kernel
theorem dX4_clear_2 : decode cX4_clear 2 = .ok (.putfield 28, 3) := by decide +kernel
theorem dX4_clear_5 : decode cX4_clear 5 = .ok (.return_, 1) := by decide +kernel
theorem dX4_copyFrom_0 : decode cX4_copyFrom 0 = .ok (.aload_n 1, 1) := by decide +kernel
theorem dX4_copyFrom_1 : decode cX4_copyFrom 1 = .ok (.getfield 9, 3) := by decide +kernel
theorem dX4_copyFrom_4 : decode cX4_copyFrom 4 = .ok (.aload_n 0, 1) := by decide +kernel
theorem dX4_copyFrom_5 : decode cX4_copyFrom 5 = .ok (.getfield 9, 3) := by decide +kernel
theorem dX4_copyFrom_8 : decode cX4_copyFrom 8 = .ok (.if_icmp .ne 14, 3) := by decide +kernel
theorem dX4_copyFrom_11 : decode cX4_copyFrom 11 = .ok (.aload_n 1, 1) := by decide +kernel
theorem dX4_copyFrom_12 : decode cX4_copyFrom 12 = .ok (.getfield 15, 3) := by decide +kernel
theorem dX4_copyFrom_15 : decode cX4_copyFrom 15 = .ok (.aload_n 0, 1) := by decide +kernel
theorem dX4_copyFrom_16 : decode cX4_copyFrom 16 = .ok (.getfield 15, 3) := by decide +kernel
theorem dX4_copyFrom_19 : decode cX4_copyFrom 19 = .ok (.if_icmp .eq 4, 3) := by decide +kernel
theorem dX4_copyFrom_23 : decode cX4_copyFrom 23 = .ok (.aload_n 1, 1) := by decide +kernel
theorem dX4_copyFrom_24 : decode cX4_copyFrom 24 = .ok (.getfield 24, 3) := by decide +kernel
theorem dX4_copyFrom_27 : decode cX4_copyFrom 27 = .ok (.arraylength, 1) := by decide +kernel
theorem dX4_copyFrom_28 : decode cX4_copyFrom 28 = .ok (.aload_n 0, 1) := by decide +kernel
theorem dX4_copyFrom_29 : decode cX4_copyFrom 29 = .ok (.getfield 24, 3) := by decide +kernel
theorem dX4_copyFrom_32 : decode cX4_copyFrom 32 = .ok (.arraylength, 1) := by decide +kernel
theorem dX4_copyFrom_33 : decode cX4_copyFrom 33 = .ok (.if_icmp .le 14, 3) := by decide +kernel
theorem dX4_copyFrom_36 : decode cX4_copyFrom 36 = .ok (.aload_n 0, 1) := by decide +kernel
theorem dX4_copyFrom_37 : decode cX4_copyFrom 37 = .ok (.aload_n 1, 1) := by decide +kernel
theorem dX4_copyFrom_38 : decode cX4_copyFrom 38 = .ok (.getfield 24, 3) := by decide +kernel
theorem dX4_copyFrom_41 : decode cX4_copyFrom 41 = .ok (.arraylength, 1) := by decide +kernel
theorem dX4_copyFrom_42 : decode cX4_copyFrom 42 = .ok (.newarray .int, 2) := by decide +kernel
theorem dX4_copyFrom_44 : decode cX4_copyFrom 44 = .ok (.putfield 24, 3) := by decide +kernel
theorem dX4_copyFrom_47 : decode cX4_copyFrom 47 = .ok (.aload_n 1, 1) := by decide +kernel
theorem dX4_copyFrom_48 : decode cX4_copyFrom 48 = .ok (.getfield 24, 3) := by decide +kernel
theorem dX4_copyFrom_51 : decode cX4_copyFrom 51 = .ok (.iconst 0, 1) := by decide +kernel
theorem dX4_copyFrom_52 : decode cX4_copyFrom 52 = .ok (.aload_n 0, 1) := by decide +kernel
theorem dX4_copyFrom_53 : decode cX4_copyFrom 53 = .ok (.getfield 24, 3) := by decide +kernel
theorem dX4_copyFrom_56 : decode cX4_copyFrom 56 = .ok (.iconst 0, 1) := by decide +kernel
theorem dX4_copyFrom_57 : decode cX4_copyFrom 57 = .ok (.aload_n 1, 1) := by decide +kernel
theorem dX4_copyFrom_58 : decode cX4_copyFrom 58 = .ok (.getfield 28, 3) := by decide +kernel
theorem dX4_copyFrom_61 : decode cX4_copyFrom 61 = .ok (.aload_n 1, 1) := by decide +kernel
theorem dX4_copyFrom_62 : decode cX4_copyFrom 62 = .ok (.getfield 9, 3) := by decide +kernel
theorem dX4_copyFrom_65 : decode cX4_copyFrom 65 = .ok (.imul, 1) := by decide +kernel
theorem dX4_copyFrom_66 : decode cX4_copyFrom 66 = .ok (.invokestatic 42, 3) := by decide +kernel
theorem dX4_copyFrom_69 : decode cX4_copyFrom 69 = .ok (.aload_n 0, 1) := by decide +kernel
theorem dX4_copyFrom_70 : decode cX4_copyFrom 70 = .ok (.aload_n 1, 1) := by decide +kernel
theorem dX4_copyFrom_71 : decode cX4_copyFrom 71 = .ok (.getfield 28, 3) := by decide +kernel
theorem dX4_copyFrom_74 : decode cX4_copyFrom 74 = .ok (.putfield 28, 3) := by decide +kernel
theorem dX4_copyFrom_77 : decode cX4_copyFrom 77 = .ok (.return_, 1) := by decide +kernel
theorem dX4_move_0 : decode cX4_move 0 = .ok (.iload_n 1, 1) := by decide +kernel
theorem dX4_move_1 : decode cX4_move 1 = .ok (.ifCond .lt 34, 3) := by decide +kernel
theorem dX4_move_4 : decode cX4_move 4 = .ok (.iload_n 3, 1) := by decide +kernel
theorem dX4_move_5 : decode cX4_move 5 = .ok (.ifCond .lt 30, 3) := by decide +kernel
theorem dX4_move_8 : decode cX4_move 8 = .ok (.iload 4, 2) := by decide +kernel
theorem dX4_move_10 : decode cX4_move 10 = .ok (.ifCond .lt 25, 3) := by decide +kernel
theorem dX4_move_13 : decode cX4_move 13 = .ok (.iload 4, 2) := by decide +kernel
theorem dX4_move_15 : decode cX4_move 15 = .ok (.aload_n 0, 1) := by decide +kernel
theorem dX4_move_16 : decode cX4_move 16 = .ok (.arraylength, 1) := by decide +kernel
theorem dX4_move_17 : decode cX4_move 17 = .ok (.iload_n 1, 1) := by decide +kernel
theorem dX4_move_18 : decode cX4_move 18 = .ok (.isub, 1) := by decide +kernel
theorem dX4_move_19 : decode cX4_move 19 = .ok (.if_icmp .gt 16, 3) := by decide +kernel
theorem dX4_move_22 : decode cX4_move 22 = .ok (.iload 4, 2) := by decide +kernel
theorem dX4_move_24 : decode cX4_move 24 = .ok (.aload_n 2, 1) := by decide +kernel
theorem dX4_move_25 : decode cX4_move 25 = .ok (.arraylength, 1) := by decide +kernel
theorem dX4_move_26 : decode cX4_move 26 = .ok (.iload_n 3, 1) := by decide +kernel
theorem dX4_move_27 : decode cX4_move 27 = .ok (.isub, 1) := by decide +kernel
theorem dX4_move_28 : decode cX4_move 28 = .ok (.if_icmp .gt 7, 3) := by decide +kernel
theorem dX4_move_31 : decode cX4_move 31 = .ok (.iconst 1, 1) := by decide +kernel
theorem dX4_move_32 : decode cX4_move 32 = .ok (.goto 4, 3) := by decide +kernel
theorem dX4_move_36 : decode cX4_move 36 = .ok (.istore 5, 2) := by decide +kernel
theorem dX4_move_38 : decode cX4_move 38 = .ok (.iload 5, 2) := by decide +kernel
theorem dX4_move_40 : decode cX4_move 40 = .ok (.ifCond .eq 12, 3) := by decide +kernel
theorem dX4_move_43 : decode cX4_move 43 = .ok (.aload_n 0, 1) := by decide +kernel
theorem dX4_move_44 : decode cX4_move 44 = .ok (.iload_n 1, 1) := by decide +kernel
theorem dX4_move_45 : decode cX4_move 45 = .ok (.aload_n 2, 1) := by decide +kernel
theorem dX4_move_46 : decode cX4_move 46 = .ok (.iload_n 3, 1) := by decide +kernel
theorem dX4_move_47 : decode cX4_move 47 = .ok (.iload 4, 2) := by decide +kernel
theorem dX4_move_49 : decode cX4_move 49 = .ok (.invokestatic 46, 3) := by decide +kernel
theorem dX4_move_52 : decode cX4_move 52 = .ok (.return_, 1) := by decide +kernel
theorem dX4_placeOf_0 : decode cX4_placeOf 0 = .ok (.iconst 0, 1) := by decide +kernel
theorem dX4_placeOf_1 : decode cX4_placeOf 1 = .ok (.istore_n 3, 1) := by decide +kernel
theorem dX4_placeOf_2 : decode cX4_placeOf 2 = .ok (.iload_n 3, 1) := by decide +kernel
theorem dX4_placeOf_3 : decode cX4_placeOf 3 = .ok (.aload_n 0, 1) := by decide +kernel
theorem dX4_placeOf_4 : decode cX4_placeOf 4 = .ok (.getfield 28, 3) := by decide +kernel
theorem dX4_placeOf_7 : decode cX4_placeOf 7 = .ok (.if_icmp .ge 21, 3) := by decide +kernel
theorem dX4_placeOf_10 : decode cX4_placeOf 10 = .ok (.aload_n 0, 1) := by decide +kernel
theorem dX4_placeOf_11 : decode cX4_placeOf 11 = .ok (.iload_n 3, 1) := by decide +kernel
theorem dX4_placeOf_12 : decode cX4_placeOf 12 = .ok (.iload_n 1, 1) := by decide +kernel
theorem dX4_placeOf_13 : decode cX4_placeOf 13 = .ok (.invokevirtual 31, 3) := by decide +kernel
theorem dX4_placeOf_16 : decode cX4_placeOf 16 = .ok (.iload_n 2, 1) := by decide +kernel
theorem dX4_placeOf_17 : decode cX4_placeOf 17 = .ok (.if_icmp .ne 5, 3) := by decide +kernel
theorem dX4_placeOf_20 : decode cX4_placeOf 20 = .ok (.iload_n 3, 1) := by decide +kernel
theorem dX4_placeOf_21 : decode cX4_placeOf 21 = .ok (.ireturn, 1) := by decide +kernel
theorem dX4_placeOf_22 : decode cX4_placeOf 22 = .ok (.iinc 3 1, 3) := by decide +kernel
theorem dX4_placeOf_25 : decode cX4_placeOf 25 = .ok (.goto (-23), 3) := by decide +kernel
theorem dX4_placeOf_28 : decode cX4_placeOf 28 = .ok (.iconst (-1), 1) := by decide +kernel
theorem dX4_placeOf_29 : decode cX4_placeOf 29 = .ok (.ireturn, 1) := by decide +kernel
theorem dX4_copyShared_0 : decode cX4_copyShared 0 = .ok (.iconst 0, 1) := by decide +kernel
theorem dX4_copyShared_1 : decode cX4_copyShared 1 = .ok (.istore 4, 2) := by decide +kernel
theorem dX4_copyShared_3 : decode cX4_copyShared 3 = .ok (.iload 4, 2) := by decide +kernel
theorem dX4_copyShared_5 : decode cX4_copyShared 5 = .ok (.bipush 6, 2) := by decide +kernel
theorem dX4_copyShared_7 : decode cX4_copyShared 7 = .ok (.if_icmp .ge 23, 3) := by decide +kernel
theorem dX4_copyShared_10 : decode cX4_copyShared 10 = .ok (.aload_n 0, 1) := by decide +kernel
theorem dX4_copyShared_11 : decode cX4_copyShared 11 = .ok (.iload_n 1, 1) := by decide +kernel
theorem dX4_copyShared_12 : decode cX4_copyShared 12 = .ok (.iload 4, 2) := by decide +kernel
theorem dX4_copyShared_14 : decode cX4_copyShared 14 = .ok (.aload_n 2, 1) := by decide +kernel
theorem dX4_copyShared_15 : decode cX4_copyShared 15 = .ok (.iload_n 3, 1) := by decide +kernel
theorem dX4_copyShared_16 : decode cX4_copyShared 16 = .ok (.iload 4, 2) := by decide +kernel
theorem dX4_copyShared_18 : decode cX4_copyShared 18 = .ok (.invokevirtual 31, 3) := by decide +kernel
theorem dX4_copyShared_21 : decode cX4_copyShared 21 = .ok (.invokevirtual 38, 3) := by decide +kernel
theorem dX4_copyShared_24 : decode cX4_copyShared 24 = .ok (.iinc 4 1, 3) := by decide +kernel
theorem dX4_copyShared_27 : decode cX4_copyShared 27 = .ok (.goto (-24), 3) := by decide +kernel
theorem dX4_copyShared_30 : decode cX4_copyShared 30 = .ok (.return_, 1) := by decide +kernel
theorem dX4_isNamedAs_0 : decode cX4_isNamedAs 0 = .ok (.aload_n 0, 1) := by decide +kernel
theorem dX4_isNamedAs_1 : decode cX4_isNamedAs 1 = .ok (.iload_n 1, 1) := by decide +kernel
theorem dX4_isNamedAs_2 : decode cX4_isNamedAs 2 = .ok (.iconst 5, 1) := by decide +kernel
theorem dX4_isNamedAs_3 : decode cX4_isNamedAs 3 = .ok (.invokevirtual 31, 3) := by decide +kernel
theorem dX4_isNamedAs_6 : decode cX4_isNamedAs 6 = .ok (.aload_n 2, 1) := by decide +kernel
theorem dX4_isNamedAs_7 : decode cX4_isNamedAs 7 = .ok (.iload_n 3, 1) := by decide +kernel
theorem dX4_isNamedAs_8 : decode cX4_isNamedAs 8 = .ok (.iconst 5, 1) := by decide +kernel
theorem dX4_isNamedAs_9 : decode cX4_isNamedAs 9 = .ok (.invokevirtual 31, 3) := by decide +kernel
theorem dX4_isNamedAs_12 : decode cX4_isNamedAs 12 = .ok (.if_icmp .ne 37, 3) := by decide +kernel
theorem dX4_isNamedAs_15 : decode cX4_isNamedAs 15 = .ok (.aload_n 0, 1) := by decide +kernel
theorem dX4_isNamedAs_16 : decode cX4_isNamedAs 16 = .ok (.iload_n 1, 1) := by decide +kernel
theorem dX4_isNamedAs_17 : decode cX4_isNamedAs 17 = .ok (.iconst 2, 1) := by decide +kernel
theorem dX4_isNamedAs_18 : decode cX4_isNamedAs 18 = .ok (.invokevirtual 31, 3) := by decide +kernel
theorem dX4_isNamedAs_21 : decode cX4_isNamedAs 21 = .ok (.aload_n 2, 1) := by decide +kernel
theorem dX4_isNamedAs_22 : decode cX4_isNamedAs 22 = .ok (.iload_n 3, 1) := by decide +kernel
theorem dX4_isNamedAs_23 : decode cX4_isNamedAs 23 = .ok (.iconst 2, 1) := by decide +kernel
theorem dX4_isNamedAs_24 : decode cX4_isNamedAs 24 = .ok (.invokevirtual 31, 3) := by decide +kernel
theorem dX4_isNamedAs_27 : decode cX4_isNamedAs 27 = .ok (.if_icmp .ne 22, 3) := by decide +kernel
theorem dX4_isNamedAs_30 : decode cX4_isNamedAs 30 = .ok (.aload_n 0, 1) := by decide +kernel
theorem dX4_isNamedAs_31 : decode cX4_isNamedAs 31 = .ok (.iload_n 1, 1) := by decide +kernel
theorem dX4_isNamedAs_32 : decode cX4_isNamedAs 32 = .ok (.iconst 1, 1) := by decide +kernel
theorem dX4_isNamedAs_33 : decode cX4_isNamedAs 33 = .ok (.invokevirtual 31, 3) := by decide +kernel
theorem dX4_isNamedAs_36 : decode cX4_isNamedAs 36 = .ok (.aload_n 2, 1) := by decide +kernel
theorem dX4_isNamedAs_37 : decode cX4_isNamedAs 37 = .ok (.iload_n 3, 1) := by decide +kernel
theorem dX4_isNamedAs_38 : decode cX4_isNamedAs 38 = .ok (.iconst 1, 1) := by decide +kernel
theorem dX4_isNamedAs_39 : decode cX4_isNamedAs 39 = .ok (.invokevirtual 31, 3) := by decide +kernel
theorem dX4_isNamedAs_42 : decode cX4_isNamedAs 42 = .ok (.if_icmp .ne 7, 3) := by decide +kernel
theorem dX4_isNamedAs_45 : decode cX4_isNamedAs 45 = .ok (.iconst 1, 1) := by decide +kernel
theorem dX4_isNamedAs_46 : decode cX4_isNamedAs 46 = .ok (.goto 4, 3) := by decide +kernel
theorem dX4_isNamedAs_49 : decode cX4_isNamedAs 49 = .ok (.iconst 0, 1) := by decide +kernel
theorem dX4_isNamedAs_50 : decode cX4_isNamedAs 50 = .ok (.ireturn, 1) := by decide +kernel
theorem dX4_placeNamedAs_0 : decode cX4_placeNamedAs 0 = .ok (.iconst 0, 1) := by decide +kernel
theorem dX4_placeNamedAs_1 : decode cX4_placeNamedAs 1 = .ok (.istore_n 3, 1) := by decide +kernel
theorem dX4_placeNamedAs_2 : decode cX4_placeNamedAs 2 = .ok (.iload_n 3, 1) := by decide +kernel
theorem dX4_placeNamedAs_3 : decode cX4_placeNamedAs 3 = .ok (.aload_n 0, 1) := by decide +kernel
theorem dX4_placeNamedAs_4 : decode cX4_placeNamedAs 4 = .ok (.getfield 28, 3) := by decide +kernel
theorem dX4_placeNamedAs_7 : decode cX4_placeNamedAs 7 = .ok (.if_icmp .ge 21, 3) := by decide +kernel
theorem dX4_placeNamedAs_10 : decode cX4_placeNamedAs 10 = .ok (.aload_n 0, 1) := by decide +kernel
theorem dX4_placeNamedAs_11 : decode cX4_placeNamedAs 11 = .ok (.iload_n 3, 1) := by decide +kernel
theorem dX4_placeNamedAs_12 : decode cX4_placeNamedAs 12 = .ok (.aload_n 1, 1) := by decide +kernel
theorem dX4_placeNamedAs_13 : decode cX4_placeNamedAs 13 = .ok (.iload_n 2, 1) := by decide +kernel
theorem dX4_placeNamedAs_14 : decode cX4_placeNamedAs 14 = .ok (.invokevirtual 52, 3) := by decide +kernel
theorem dX4_placeNamedAs_17 : decode cX4_placeNamedAs 17 = .ok (.ifCond .eq 5, 3) := by decide +kernel
theorem dX4_placeNamedAs_20 : decode cX4_placeNamedAs 20 = .ok (.iload_n 3, 1) := by decide +kernel
theorem dX4_placeNamedAs_21 : decode cX4_placeNamedAs 21 = .ok (.ireturn, 1) := by decide +kernel
theorem dX4_placeNamedAs_22 : decode cX4_placeNamedAs 22 = .ok (.iinc 3 1, 3) := by decide +kernel
theorem dX4_placeNamedAs_25 : decode cX4_placeNamedAs 25 = .ok (.goto (-23), 3) := by decide +kernel
theorem dX4_placeNamedAs_28 : decode cX4_placeNamedAs 28 = .ok (.iconst (-1), 1) := by decide +kernel
theorem dX4_placeNamedAs_29 : decode cX4_placeNamedAs 29 = .ok (.ireturn, 1) := by decide +kernel
theorem dX4_compareData_0 : decode cX4_compareData 0 = .ok (.aload_n 0, 1) := by decide +kernel
theorem dX4_compareData_1 : decode cX4_compareData 1 = .ok (.iload_n 1, 1) := by decide +kernel
theorem dX4_compareData_2 : decode cX4_compareData 2 = .ok (.iconst 3, 1) := by decide +kernel
theorem dX4_compareData_3 : decode cX4_compareData 3 = .ok (.invokevirtual 31, 3) := by decide +kernel
theorem dX4_compareData_6 : decode cX4_compareData 6 = .ok (.aload_n 2, 1) := by decide +kernel
theorem dX4_compareData_7 : decode cX4_compareData 7 = .ok (.iload_n 3, 1) := by decide +kernel
theorem dX4_compareData_8 : decode cX4_compareData 8 = .ok (.iconst 3, 1) := by decide +kernel
theorem dX4_compareData_9 : decode cX4_compareData 9 = .ok (.invokevirtual 31, 3) := by decide +kernel
theorem dX4_compareData_12 : decode cX4_compareData 12 = .ok (.invokestatic 56, 3) := by decide +kernel
theorem dX4_compareData_15 : decode cX4_compareData 15 = .ok (.istore 4, 2) := by decide +kernel
theorem dX4_compareData_17 : decode cX4_compareData 17 = .ok (.iload 4, 2) := by decide +kernel
theorem dX4_compareData_19 : decode cX4_compareData 19 = .ok (.ifCond .eq 8, 3) := by decide +kernel
theorem dX4_compareData_22 : decode cX4_compareData 22 = .ok (.iload 4, 2) := by decide +kernel
theorem dX4_compareData_24 : decode cX4_compareData 24 = .ok (.goto 18, 3) := by decide +kernel
theorem dX4_compareData_27 : decode cX4_compareData 27 = .ok (.aload_n 0, 1) := by decide +kernel
theorem dX4_compareData_28 : decode cX4_compareData 28 = .ok (.iload_n 1, 1) := by decide +kernel
theorem dX4_compareData_29 : decode cX4_compareData 29 = .ok (.iconst 0, 1) := by decide +kernel
theorem dX4_compareData_30 : decode cX4_compareData 30 = .ok (.invokevirtual 31, 3) := by decide +kernel
theorem dX4_compareData_33 : decode cX4_compareData 33 = .ok (.aload_n 2, 1) := by decide +kernel
theorem dX4_compareData_34 : decode cX4_compareData 34 = .ok (.iload_n 3, 1) := by decide +kernel
theorem dX4_compareData_35 : decode cX4_compareData 35 = .ok (.iconst 0, 1) := by decide +kernel
theorem dX4_compareData_36 : decode cX4_compareData 36 = .ok (.invokevirtual 31, 3) := by decide +kernel
theorem dX4_compareData_39 : decode cX4_compareData 39 = .ok (.invokestatic 56, 3) := by decide +kernel
theorem dX4_compareData_42 : decode cX4_compareData 42 = .ok (.ireturn, 1) := by decide +kernel
theorem dX4_endOfRecord_0 : decode cX4_endOfRecord 0 = .ok (.aload_n 0, 1) := by decide +kernel
theorem dX4_endOfRecord_1 : decode cX4_endOfRecord 1 = .ok (.iload_n 1, 1) := by decide +kernel
theorem dX4_endOfRecord_2 : decode cX4_endOfRecord 2 = .ok (.bipush 6, 2) := by decide +kernel
theorem dX4_endOfRecord_4 : decode cX4_endOfRecord 4 = .ok (.invokevirtual 31, 3) := by decide +kernel
theorem dX4_endOfRecord_7 : decode cX4_endOfRecord 7 = .ok (.aload_n 0, 1) := by decide +kernel
theorem dX4_endOfRecord_8 : decode cX4_endOfRecord 8 = .ok (.iload_n 1, 1) := by decide +kernel
theorem dX4_endOfRecord_9 : decode cX4_endOfRecord 9 = .ok (.iconst 4, 1) := by decide +kernel
theorem dX4_endOfRecord_10 : decode cX4_endOfRecord 10 = .ok (.invokevirtual 31, 3) := by decide +kernel
theorem dX4_endOfRecord_13 : decode cX4_endOfRecord 13 = .ok (.iadd, 1) := by decide +kernel
theorem dX4_endOfRecord_14 : decode cX4_endOfRecord 14 = .ok (.ireturn, 1) := by decide +kernel
theorem dX5_init_0 : decode cX5_init 0 = .ok (.aload_n 0, 1) := by decide +kernel
theorem dX5_init_1 : decode cX5_init 1 = .ok (.invokespecial 3, 3) := by decide +kernel
theorem dX5_init_4 : decode cX5_init 4 = .ok (.aload_n 0, 1) := by decide +kernel
theorem dX5_init_5 : decode cX5_init 5 = .ok (.iconst 0, 1) := by decide +kernel
theorem dX5_init_6 : decode cX5_init 6 = .ok (.iload_n 1, 1) := by decide +kernel
theorem dX5_init_7 : decode cX5_init 7 = .ok (.invokestatic 9, 3) := by decide +kernel
theorem dX5_init_10 : decode cX5_init 10 = .ok (.newarray .byte, 2) := by decide +kernel
theorem dX5_init_12 : decode cX5_init 12 = .ok (.putfield 15, 3) := by decide +kernel
theorem dX5_init_15 : decode cX5_init 15 = .ok (.aload_n 0, 1) := by decide +kernel
theorem dX5_init_16 : decode cX5_init 16 = .ok (.iconst 0, 1) := by decide +kernel
theorem dX5_init_17 : decode cX5_init 17 = .ok (.putfield 21, 3) := by decide +kernel
theorem dX5_init_20 : decode cX5_init 20 = .ok (.return_, 1) := by decide +kernel
theorem dX5_size_0 : decode cX5_size 0 = .ok (.aload_n 0, 1) := by decide +kernel
theorem dX5_size_1 : decode cX5_size 1 = .ok (.getfield 21, 3) := by decide +kernel
theorem dX5_size_4 : decode cX5_size 4 = .ok (.ireturn, 1) := by decide +kernel
theorem dX5_byteAt_0 : decode cX5_byteAt 0 = .ok (.iload_n 1, 1) := by decide +kernel
theorem dX5_byteAt_1 : decode cX5_byteAt 1 = .ok (.ifCond .lt 20, 3) := by decide +kernel
theorem dX5_byteAt_4 : decode cX5_byteAt 4 = .ok (.iload_n 1, 1) := by decide +kernel
theorem dX5_byteAt_5 : decode cX5_byteAt 5 = .ok (.aload_n 0, 1) := by decide +kernel
theorem dX5_byteAt_6 : decode cX5_byteAt 6 = .ok (.getfield 21, 3) := by decide +kernel
theorem dX5_byteAt_9 : decode cX5_byteAt 9 = .ok (.if_icmp .ge 12, 3) := by decide +kernel
theorem dX5_byteAt_12 : decode cX5_byteAt 12 = .ok (.iload_n 1, 1) := by decide +kernel
theorem dX5_byteAt_13 : decode cX5_byteAt 13 = .ok (.aload_n 0, 1) := by decide +kernel
theorem dX5_byteAt_14 : decode cX5_byteAt 14 = .ok (.getfield 15, 3) := by decide +kernel
theorem dX5_byteAt_17 : decode cX5_byteAt 17 = .ok (.arraylength, 1) := by decide +kernel
theorem dX5_byteAt_18 : decode cX5_byteAt 18 = .ok (.if_icmp .lt 7, 3) := by decide +kernel
theorem dX5_byteAt_21 : decode cX5_byteAt 21 = .ok (.iconst (-1), 1) := by decide +kernel
theorem dX5_byteAt_22 : decode cX5_byteAt 22 = .ok (.goto 13, 3) := by decide +kernel
theorem dX5_byteAt_25 : decode cX5_byteAt 25 = .ok (.aload_n 0, 1) := by decide +kernel
theorem dX5_byteAt_26 : decode cX5_byteAt 26 = .ok (.getfield 15, 3) := by decide +kernel
theorem dX5_byteAt_29 : decode cX5_byteAt 29 = .ok (.iload_n 1, 1) := by decide +kernel
theorem dX5_byteAt_30 : decode cX5_byteAt 30 = .ok (.baload, 1) := by decide +kernel
theorem dX5_byteAt_31 : decode cX5_byteAt 31 = .ok (.sipush 255, 3) := by decide +kernel
theorem dX5_byteAt_34 : decode cX5_byteAt 34 = .ok (.iand, 1) := by decide +kernel
theorem dX5_byteAt_35 : decode cX5_byteAt 35 = .ok (.ireturn, 1) := by decide +kernel
theorem dX5_cutTo_0 : decode cX5_cutTo 0 = .ok (.iload_n 1, 1) := by decide +kernel
theorem dX5_cutTo_1 : decode cX5_cutTo 1 = .ok (.ifCond .lt 16, 3) := by decide +kernel
theorem dX5_cutTo_4 : decode cX5_cutTo 4 = .ok (.iload_n 1, 1) := by decide +kernel
theorem dX5_cutTo_5 : decode cX5_cutTo 5 = .ok (.aload_n 0, 1) := by decide +kernel
theorem dX5_cutTo_6 : decode cX5_cutTo 6 = .ok (.getfield 21, 3) := by decide +kernel
theorem dX5_cutTo_9 : decode cX5_cutTo 9 = .ok (.if_icmp .gt 8, 3) := by decide +kernel
theorem dX5_cutTo_12 : decode cX5_cutTo 12 = .ok (.aload_n 0, 1) := by decide +kernel
theorem dX5_cutTo_13 : decode cX5_cutTo 13 = .ok (.iload_n 1, 1) := by decide +kernel
theorem dX5_cutTo_14 : decode cX5_cutTo 14 = .ok (.putfield 21, 3) := by decide +kernel
theorem dX5_cutTo_17 : decode cX5_cutTo 17 = .ok (.return_, 1) := by decide +kernel
theorem dX5_put_0 : decode cX5_put 0 = .ok (.aload_n 0, 1) := by decide +kernel
theorem dX5_put_1 : decode cX5_put 1 = .ok (.getfield 21, 3) := by decide +kernel
theorem dX5_put_4 : decode cX5_put 4 = .ok (.ifCond .lt 36, 3) := by decide +kernel
theorem dX5_put_7 : decode cX5_put 7 = .ok (.aload_n 0, 1) := by decide +kernel
theorem dX5_put_8 : decode cX5_put 8 = .ok (.getfield 21, 3) := by decide +kernel
theorem dX5_put_11 : decode cX5_put 11 = .ok (.aload_n 0, 1) := by decide +kernel
theorem dX5_put_12 : decode cX5_put 12 = .ok (.getfield 15, 3) := by decide +kernel
theorem dX5_put_15 : decode cX5_put 15 = .ok (.arraylength, 1) := by decide +kernel
theorem dX5_put_16 : decode cX5_put 16 = .ok (.if_icmp .ge 24, 3) := by decide +kernel
theorem dX5_put_19 : decode cX5_put 19 = .ok (.aload_n 0, 1) := by decide +kernel
theorem dX5_put_20 : decode cX5_put 20 = .ok (.getfield 15, 3) := by decide +kernel
theorem dX5_put_23 : decode cX5_put 23 = .ok (.aload_n 0, 1) := by decide +kernel
theorem dX5_put_24 : decode cX5_put 24 = .ok (.getfield 21, 3) := by decide +kernel
theorem dX5_put_27 : decode cX5_put 27 = .ok (.iload_n 1, 1) := by decide +kernel
theorem dX5_put_28 : decode cX5_put 28 = .ok (.i2b, 1) := by decide +kernel
theorem dX5_put_29 : decode cX5_put 29 = .ok (.bastore, 1) := by decide +kernel
theorem dX5_put_30 : decode cX5_put 30 = .ok (.aload_n 0, 1) := by decide +kernel
theorem dX5_put_31 : decode cX5_put 31 = .ok (.dup, 1) := by decide +kernel
theorem dX5_put_32 : decode cX5_put 32 = .ok (.getfield 21, 3) := by decide +kernel
theorem dX5_put_35 : decode cX5_put 35 = .ok (.iconst 1, 1) := by decide +kernel
theorem dX5_put_36 : decode cX5_put 36 = .ok (.iadd, 1) := by decide +kernel
theorem dX5_put_37 : decode cX5_put 37 = .ok (.putfield 21, 3) := by decide +kernel
theorem dX5_put_40 : decode cX5_put 40 = .ok (.return_, 1) := by decide +kernel
theorem dX5_putFour_0 : decode cX5_putFour 0 = .ok (.aload_n 0, 1) := by decide +kernel
theorem dX5_putFour_1 : decode cX5_putFour 1 = .ok (.iload_n 1, 1) := by decide +kernel
theorem dX5_putFour_2 : decode cX5_putFour 2 = .ok (.bipush 24, 2) := by decide +kernel
theorem dX5_putFour_4 : decode cX5_putFour 4 = .ok (.iushr, 1) := by decide +kernel
theorem dX5_putFour_5 : decode cX5_putFour 5 = .ok (.invokevirtual 25, 3) := by decide +kernel
theorem dX5_putFour_8 : decode cX5_putFour 8 = .ok (.aload_n 0, 1) := by decide +kernel
theorem dX5_putFour_9 : decode cX5_putFour 9 = .ok (.iload_n 1, 1) := by decide +kernel
theorem dX5_putFour_10 : decode cX5_putFour 10 = .ok (.bipush 16, 2) := by decide +kernel
theorem dX5_putFour_12 : decode cX5_putFour 12 = .ok (.iushr, 1) := by decide +kernel
theorem dX5_putFour_13 : decode cX5_putFour 13 = .ok (.invokevirtual 25, 3) := by decide +kernel
theorem dX5_putFour_16 : decode cX5_putFour 16 = .ok (.aload_n 0, 1) := by decide +kernel
theorem dX5_putFour_17 : decode cX5_putFour 17 = .ok (.iload_n 1, 1) := by decide +kernel
theorem dX5_putFour_18 : decode cX5_putFour 18 = .ok (.bipush 8, 2) := by decide +kernel
theorem dX5_putFour_20 : decode cX5_putFour 20 = .ok (.iushr, 1) := by decide +kernel
theorem dX5_putFour_21 : decode cX5_putFour 21 = .ok (.invokevirtual 25, 3) := by decide +kernel
theorem dX5_putFour_24 : decode cX5_putFour 24 = .ok (.aload_n 0, 1) := by decide +kernel
theorem dX5_putFour_25 : decode cX5_putFour 25 = .ok (.iload_n 1, 1) := by decide +kernel
theorem dX5_putFour_26 : decode cX5_putFour 26 = .ok (.invokevirtual 25, 3) := by decide +kernel
theorem dX5_putFour_29 : decode cX5_putFour 29 = .ok (.return_, 1) := by decide +kernel
theorem dX5_putAll_0 : decode cX5_putAll 0 = .ok (.iconst 0, 1) := by decide +kernel
theorem dX5_putAll_1 : decode cX5_putAll 1 = .ok (.istore_n 2, 1) := by decide +kernel
theorem dX5_putAll_2 : decode cX5_putAll 2 = .ok (.iload_n 2, 1) := by decide +kernel
theorem dX5_putAll_3 : decode cX5_putAll 3 = .ok (.aload_n 1, 1) := by decide +kernel
theorem dX5_putAll_4 : decode cX5_putAll 4 = .ok (.invokevirtual 29, 3) := by decide +kernel
theorem dX5_putAll_7 : decode cX5_putAll 7 = .ok (.if_icmp .ge 18, 3) := by decide +kernel
theorem dX5_putAll_10 : decode cX5_putAll 10 = .ok (.aload_n 0, 1) := by decide +kernel
theorem dX5_putAll_11 : decode cX5_putAll 11 = .ok (.aload_n 1, 1) := by decide +kernel
theorem dX5_putAll_12 : decode cX5_putAll 12 = .ok (.iload_n 2, 1) := by decide +kernel
theorem dX5_putAll_13 : decode cX5_putAll 13 = .ok (.invokevirtual 34, 3) := by decide +kernel
theorem dX5_putAll_16 : decode cX5_putAll 16 = .ok (.invokevirtual 25, 3) := by decide +kernel
theorem dX5_putAll_19 : decode cX5_putAll 19 = .ok (.iinc 2 1, 3) := by decide +kernel
theorem dX5_putAll_22 : decode cX5_putAll 22 = .ok (.goto (-20), 3) := by decide +kernel
theorem dX5_putAll_25 : decode cX5_putAll 25 = .ok (.return_, 1) := by decide +kernel
theorem dX5_putWord_0 : decode cX5_putWord 0 = .ok (.iconst 0, 1) := by decide +kernel
theorem dX5_putWord_1 : decode cX5_putWord 1 = .ok (.istore_n 2, 1) := by decide +kernel
theorem dX5_putWord_2 : decode cX5_putWord 2 = .ok (.iload_n 2, 1) := by decide +kernel
theorem dX5_putWord_3 : decode cX5_putWord 3 = .ok (.bipush 6, 2) := by decide +kernel
theorem dX5_putWord_5 : decode cX5_putWord 5 = .ok (.if_icmp .ge 25, 3) := by decide +kernel
theorem dX5_putWord_8 : decode cX5_putWord 8 = .ok (.iload_n 1, 1) := by decide +kernel
theorem dX5_putWord_9 : decode cX5_putWord 9 = .ok (.iload_n 2, 1) := by decide +kernel
theorem dX5_putWord_10 : decode cX5_putWord 10 = .ok (.invokestatic 38, 3) := by decide +kernel
theorem dX5_putWord_13 : decode cX5_putWord 13 = .ok (.istore_n 3, 1) := by decide +kernel
theorem dX5_putWord_14 : decode cX5_putWord 14 = .ok (.iload_n 3, 1) := by decide +kernel
theorem dX5_putWord_15 : decode cX5_putWord 15 = .ok (.iconst (-1), 1) := by decide +kernel
theorem dX5_putWord_16 : decode cX5_putWord 16 = .ok (.if_icmp .eq 8, 3) := by decide +kernel
theorem dX5_putWord_19 : decode cX5_putWord 19 = .ok (.aload_n 0, 1) := by decide +kernel
theorem dX5_putWord_20 : decode cX5_putWord 20 = .ok (.iload_n 3, 1) := by decide +kernel
theorem dX5_putWord_21 : decode cX5_putWord 21 = .ok (.invokevirtual 25, 3) := by decide +kernel
theorem dX5_putWord_24 : decode cX5_putWord 24 = .ok (.iinc 2 1, 3) := by decide +kernel
theorem dX5_putWord_27 : decode cX5_putWord 27 = .ok (.goto (-25), 3) := by decide +kernel
theorem dX5_putWord_30 : decode cX5_putWord 30 = .ok (.return_, 1) := by decide +kernel
theorem dX5_asWord_0 : decode cX5_asWord 0 = .ok (.aload_n 0, 1) := by decide +kernel
theorem dX5_asWord_1 : decode cX5_asWord 1 = .ok (.iconst 0, 1) := by decide +kernel
theorem dX5_asWord_2 : decode cX5_asWord 2 = .ok (.aload_n 0, 1) := by decide +kernel
theorem dX5_asWord_3 : decode cX5_asWord 3 = .ok (.getfield 21, 3) := by decide +kernel
theorem dX5_asWord_6 : decode cX5_asWord 6 = .ok (.invokevirtual 42, 3) := by decide +kernel
theorem dX5_asWord_9 : decode cX5_asWord 9 = .ok (.ireturn, 1) := by decide +kernel
theorem dX5_wordIn_0 : decode cX5_wordIn 0 = .ok (.iload_n 2, 1) := by decide +kernel
theorem dX5_wordIn_1 : decode cX5_wordIn 1 = .ok (.iload_n 1, 1) := by decide +kernel
theorem dX5_wordIn_2 : decode cX5_wordIn 2 = .ok (.isub, 1) := by decide +kernel
theorem dX5_wordIn_3 : decode cX5_wordIn 3 = .ok (.iconst 1, 1) := by decide +kernel
theorem dX5_wordIn_4 : decode cX5_wordIn 4 = .ok (.if_icmp .lt 11, 3) := by decide +kernel
theorem dX5_wordIn_7 : decode cX5_wordIn 7 = .ok (.iload_n 2, 1) := by decide +kernel
theorem dX5_wordIn_8 : decode cX5_wordIn 8 = .ok (.iload_n 1, 1) := by decide +kernel
theorem dX5_wordIn_9 : decode cX5_wordIn 9 = .ok (.isub, 1) := by decide +kernel
theorem dX5_wordIn_10 : decode cX5_wordIn 10 = .ok (.bipush 6, 2) := by decide +kernel
theorem dX5_wordIn_12 : decode cX5_wordIn 12 = .ok (.if_icmp .le 5, 3) := by decide +kernel
theorem dX5_wordIn_15 : decode cX5_wordIn 15 = .ok (.iconst (-1), 1) := by decide +kernel
theorem dX5_wordIn_16 : decode cX5_wordIn 16 = .ok (.ireturn, 1) := by decide +kernel
theorem dX5_wordIn_17 : decode cX5_wordIn 17 = .ok (.iconst 0, 1) := by decide +kernel
theorem dX5_wordIn_18 : decode cX5_wordIn 18 = .ok (.istore_n 3, 1) := by decide +kernel
theorem dX5_wordIn_19 : decode cX5_wordIn 19 = .ok (.iload_n 1, 1) := by decide +kernel
theorem dX5_wordIn_20 : decode cX5_wordIn 20 = .ok (.istore 4, 2) := by decide +kernel
theorem dX5_wordIn_22 : decode cX5_wordIn 22 = .ok (.iload 4, 2) := by decide +kernel
theorem dX5_wordIn_24 : decode cX5_wordIn 24 = .ok (.iload_n 2, 1) := by decide +kernel
theorem dX5_wordIn_25 : decode cX5_wordIn 25 = .ok (.if_icmp .ge 49, 3) := by decide +kernel
theorem dX5_wordIn_28 : decode cX5_wordIn 28 = .ok (.aload_n 0, 1) := by decide +kernel
theorem dX5_wordIn_29 : decode cX5_wordIn 29 = .ok (.iload 4, 2) := by decide +kernel
theorem dX5_wordIn_31 : decode cX5_wordIn 31 = .ok (.invokevirtual 45, 3) := by decide +kernel
theorem dX5_wordIn_34 : decode cX5_wordIn 34 = .ok (.bipush 97, 2) := by decide +kernel
theorem dX5_wordIn_36 : decode cX5_wordIn 36 = .ok (.isub, 1) := by decide +kernel
theorem dX5_wordIn_37 : decode cX5_wordIn 37 = .ok (.iconst 1, 1) := by decide +kernel
theorem dX5_wordIn_38 : decode cX5_wordIn 38 = .ok (.iadd, 1) := by decide +kernel
theorem dX5_wordIn_39 : decode cX5_wordIn 39 = .ok (.istore 5, 2) := by decide +kernel
theorem dX5_wordIn_41 : decode cX5_wordIn 41 = .ok (.iload 5, 2) := by decide +kernel
theorem dX5_wordIn_43 : decode cX5_wordIn 43 = .ok (.iconst 1, 1) := by decide +kernel
theorem dX5_wordIn_44 : decode cX5_wordIn 44 = .ok (.if_icmp .lt 10, 3) := by decide +kernel
theorem dX5_wordIn_47 : decode cX5_wordIn 47 = .ok (.iload 5, 2) := by decide +kernel
theorem dX5_wordIn_49 : decode cX5_wordIn 49 = .ok (.bipush 26, 2) := by decide +kernel
theorem dX5_wordIn_51 : decode cX5_wordIn 51 = .ok (.if_icmp .le 5, 3) := by decide +kernel
theorem dX5_wordIn_56 : decode cX5_wordIn 56 = .ok (.iload_n 3, 1) := by decide +kernel
theorem dX5_wordIn_57 : decode cX5_wordIn 57 = .ok (.iload 5, 2) := by decide +kernel
theorem dX5_wordIn_59 : decode cX5_wordIn 59 = .ok (.iconst 5, 1) := by decide +kernel
theorem dX5_wordIn_60 : decode cX5_wordIn 60 = .ok (.iload 4, 2) := by decide +kernel
theorem dX5_wordIn_62 : decode cX5_wordIn 62 = .ok (.iload_n 1, 1) := by decide +kernel
theorem dX5_wordIn_63 : decode cX5_wordIn 63 = .ok (.isub, 1) := by decide +kernel
theorem dX5_wordIn_64 : decode cX5_wordIn 64 = .ok (.imul, 1) := by decide +kernel
theorem dX5_wordIn_65 : decode cX5_wordIn 65 = .ok (.ishl, 1) := by decide +kernel
theorem dX5_wordIn_66 : decode cX5_wordIn 66 = .ok (.ior, 1) := by decide +kernel
theorem dX5_wordIn_67 : decode cX5_wordIn 67 = .ok (.istore_n 3, 1) := by decide +kernel
theorem dX5_wordIn_68 : decode cX5_wordIn 68 = .ok (.iinc 4 1, 3) := by decide +kernel
theorem dX5_wordIn_71 : decode cX5_wordIn 71 = .ok (.goto (-49), 3) := by decide +kernel
theorem dX5_wordIn_74 : decode cX5_wordIn 74 = .ok (.iload_n 3, 1) := by decide +kernel
theorem dX5_wordIn_75 : decode cX5_wordIn 75 = .ok (.ireturn, 1) := by decide +kernel
theorem dX5_isSame_0 : decode cX5_isSame 0 = .ok (.iload_n 2, 1) := by decide +kernel
theorem dX5_isSame_1 : decode cX5_isSame 1 = .ok (.iload_n 1, 1) := by decide +kernel
theorem dX5_isSame_2 : decode cX5_isSame 2 = .ok (.isub, 1) := by decide +kernel
theorem dX5_isSame_3 : decode cX5_isSame 3 = .ok (.aload_n 3, 1) := by decide +kernel
theorem dX5_isSame_4 : decode cX5_isSame 4 = .ok (.invokevirtual 29, 3) := by decide +kernel
theorem dX5_isSame_7 : decode cX5_isSame 7 = .ok (.if_icmp .ne 7, 3) := by decide +kernel
theorem dX5_isSame_10 : decode cX5_isSame 10 = .ok (.iconst 1, 1) := by decide +kernel
theorem dX5_isSame_11 : decode cX5_isSame 11 = .ok (.goto 4, 3) := by decide +kernel
theorem dX5_isSame_14 : decode cX5_isSame 14 = .ok (.iconst 0, 1) := by decide +kernel
theorem dX5_isSame_15 : decode cX5_isSame 15 = .ok (.istore 4, 2) := by decide +kernel
theorem dX5_isSame_17 : decode cX5_isSame 17 = .ok (.iconst 0, 1) := by decide +kernel
theorem dX5_isSame_18 : decode cX5_isSame 18 = .ok (.istore 5, 2) := by decide +kernel
theorem dX5_isSame_20 : decode cX5_isSame 20 = .ok (.iload 4, 2) := by decide +kernel
theorem dX5_isSame_22 : decode cX5_isSame 22 = .ok (.ifCond .eq 42, 3) := by decide +kernel
theorem dX5_isSame_25 : decode cX5_isSame 25 = .ok (.iload 5, 2) := by decide +kernel
theorem dX5_isSame_27 : decode cX5_isSame 27 = .ok (.aload_n 3, 1) := by decide +kernel
theorem dX5_isSame_28 : decode cX5_isSame 28 = .ok (.invokevirtual 29, 3) := by decide +kernel
theorem dX5_isSame_31 : decode cX5_isSame 31 = .ok (.if_icmp .ge 33, 3) := by decide +kernel
theorem dX5_isSame_34 : decode cX5_isSame 34 = .ok (.aload_n 0, 1) := by decide +kernel
theorem dX5_isSame_35 : decode cX5_isSame 35 = .ok (.iload_n 1, 1) := by decide +kernel
theorem dX5_isSame_36 : decode cX5_isSame 36 = .ok (.iload 5, 2) := by decide +kernel
theorem dX5_isSame_38 : decode cX5_isSame 38 = .ok (.iadd, 1) := by decide +kernel
theorem dX5_isSame_39 : decode cX5_isSame 39 = .ok (.invokevirtual 45, 3) := by decide +kernel
theorem dX5_isSame_42 : decode cX5_isSame 42 = .ok (.aload_n 3, 1) := by decide +kernel
theorem dX5_isSame_43 : decode cX5_isSame 43 = .ok (.iload 5, 2) := by decide +kernel
theorem dX5_isSame_45 : decode cX5_isSame 45 = .ok (.invokevirtual 34, 3) := by decide +kernel
theorem dX5_isSame_48 : decode cX5_isSame 48 = .ok (.if_icmp .ne 7, 3) := by decide +kernel
theorem dX5_isSame_51 : decode cX5_isSame 51 = .ok (.iconst 1, 1) := by decide +kernel
theorem dX5_isSame_52 : decode cX5_isSame 52 = .ok (.goto 4, 3) := by decide +kernel
theorem dX5_isSame_56 : decode cX5_isSame 56 = .ok (.istore 4, 2) := by decide +kernel
theorem dX5_isSame_58 : decode cX5_isSame 58 = .ok (.iinc 5 1, 3) := by decide +kernel
theorem dX5_isSame_61 : decode cX5_isSame 61 = .ok (.goto (-41), 3) := by decide +kernel
theorem dX5_isSame_64 : decode cX5_isSame 64 = .ok (.iload 4, 2) := by decide +kernel
theorem dX5_isSame_66 : decode cX5_isSame 66 = .ok (.ireturn, 1) := by decide +kernel
theorem dX6_init_0 : decode cX6_init 0 = .ok (.aload_n 0, 1) := by decide +kernel
theorem dX6_init_1 : decode cX6_init 1 = .ok (.invokespecial 3, 3) := by decide +kernel
theorem dX6_init_4 : decode cX6_init 4 = .ok (.aload_n 0, 1) := by decide +kernel
theorem dX6_init_5 : decode cX6_init 5 = .ok (.new 9, 3) := by decide +kernel
theorem dX6_init_8 : decode cX6_init 8 = .ok (.dup, 1) := by decide +kernel
theorem dX6_init_9 : decode cX6_init 9 = .ok (.sipush 800, 3) := by decide +kernel
theorem dX6_init_12 : decode cX6_init 12 = .ok (.invokespecial 11, 3) := by decide +kernel
theorem dX6_init_15 : decode cX6_init 15 = .ok (.putfield 14, 3) := by decide +kernel
theorem dX6_init_18 : decode cX6_init 18 = .ok (.aload_n 0, 1) := by decide +kernel
theorem dX6_init_19 : decode cX6_init 19 = .ok (.new 9, 3) := by decide +kernel
theorem dX6_init_22 : decode cX6_init 22 = .ok (.dup, 1) := by decide +kernel
theorem dX6_init_23 : decode cX6_init 23 = .ok (.sipush 400, 3) := by decide +kernel
theorem dX6_init_26 : decode cX6_init 26 = .ok (.invokespecial 11, 3) := by decide +kernel
theorem dX6_init_29 : decode cX6_init 29 = .ok (.putfield 18, 3) := by decide +kernel
theorem dX6_init_32 : decode cX6_init 32 = .ok (.aload_n 0, 1) := by decide +kernel
theorem dX6_init_33 : decode cX6_init 33 = .ok (.new 21, 3) := by decide +kernel
theorem dX6_init_36 : decode cX6_init 36 = .ok (.dup, 1) := by decide +kernel
theorem dX6_init_37 : decode cX6_init 37 = .ok (.invokespecial 23, 3) := by decide +kernel
theorem dX6_init_40 : decode cX6_init 40 = .ok (.putfield 24, 3) := by decide +kernel
theorem dX6_init_43 : decode cX6_init 43 = .ok (.aload_n 0, 1) := by decide +kernel
theorem dX6_init_44 : decode cX6_init 44 = .ok (.new 21, 3) := by decide +kernel
theorem dX6_init_47 : decode cX6_init 47 = .ok (.dup, 1) := by decide +kernel
theorem dX6_init_48 : decode cX6_init 48 = .ok (.invokespecial 23, 3) := by decide +kernel
theorem dX6_init_51 : decode cX6_init 51 = .ok (.putfield 28, 3) := by decide +kernel
theorem dX6_init_54 : decode cX6_init 54 = .ok (.aload_n 0, 1) := by decide +kernel
theorem dX6_init_55 : decode cX6_init 55 = .ok (.new 31, 3) := by decide +kernel
theorem dX6_init_58 : decode cX6_init 58 = .ok (.dup, 1) := by decide +kernel
theorem dX6_init_59 : decode cX6_init 59 = .ok (.invokespecial 33, 3) := by decide +kernel
theorem dX6_init_62 : decode cX6_init 62 = .ok (.putfield 34, 3) := by decide +kernel
theorem dX6_init_65 : decode cX6_init 65 = .ok (.aload_n 0, 1) := by decide +kernel
theorem dX6_init_66 : decode cX6_init 66 = .ok (.iconst 2, 1) := by decide +kernel
theorem dX6_init_67 : decode cX6_init 67 = .ok (.anewarray 21, 3) := by decide +kernel
theorem dX6_init_70 : decode cX6_init 70 = .ok (.putfield 38, 3) := by decide +kernel
theorem dX6_init_73 : decode cX6_init 73 = .ok (.aload_n 0, 1) := by decide +kernel
theorem dX6_init_74 : decode cX6_init 74 = .ok (.iconst 2, 1) := by decide +kernel
theorem dX6_init_75 : decode cX6_init 75 = .ok (.newarray .boolean, 2) := by decide +kernel
theorem dX6_init_77 : decode cX6_init 77 = .ok (.putfield 42, 3) := by decide +kernel
theorem dX6_init_80 : decode cX6_init 80 = .ok (.iconst 0, 1) := by decide +kernel
theorem dX6_init_81 : decode cX6_init 81 = .ok (.istore_n 1, 1) := by decide +kernel
theorem dX6_init_82 : decode cX6_init 82 = .ok (.iload_n 1, 1) := by decide +kernel
theorem dX6_init_83 : decode cX6_init 83 = .ok (.aload_n 0, 1) := by decide +kernel
theorem dX6_init_84 : decode cX6_init 84 = .ok (.getfield 38, 3) := by decide +kernel
theorem dX6_init_87 : decode cX6_init 87 = .ok (.arraylength, 1) := by decide +kernel
theorem dX6_init_88 : decode cX6_init 88 = .ok (.if_icmp .ge 22, 3) := by decide +kernel
theorem dX6_init_91 : decode cX6_init 91 = .ok (.aload_n 0, 1) := by decide +kernel
theorem dX6_init_92 : decode cX6_init 92 = .ok (.getfield 38, 3) := by decide +kernel
theorem dX6_init_95 : decode cX6_init 95 = .ok (.iload_n 1, 1) := by decide +kernel
theorem dX6_init_96 : decode cX6_init 96 = .ok (.new 21, 3) := by decide +kernel
theorem dX6_init_99 : decode cX6_init 99 = .ok (.dup, 1) := by decide +kernel
theorem dX6_init_100 : decode cX6_init 100 = .ok (.invokespecial 23, 3) := by decide +kernel
theorem dX6_init_103 : decode cX6_init 103 = .ok (.aastore, 1) := by decide +kernel
theorem dX6_init_104 : decode cX6_init 104 = .ok (.iinc 1 1, 3) := by decide +kernel
theorem dX6_init_107 : decode cX6_init 107 = .ok (.goto (-25), 3) := by decide +kernel
theorem dX6_init_110 : decode cX6_init 110 = .ok (.aload_n 0, 1) := by decide +kernel
theorem dX6_init_111 : decode cX6_init 111 = .ok (.iconst 0, 1) := by decide +kernel
theorem dX6_init_112 : decode cX6_init 112 = .ok (.putfield 46, 3) := by decide +kernel
theorem dX6_init_115 : decode cX6_init 115 = .ok (.aload_n 0, 1) := by decide +kernel
theorem dX6_init_116 : decode cX6_init 116 = .ok (.iconst (-1), 1) := by decide +kernel
theorem dX6_init_117 : decode cX6_init 117 = .ok (.putfield 50, 3) := by decide +kernel
theorem dX6_init_120 : decode cX6_init 120 = .ok (.aload_n 0, 1) := by decide +kernel
theorem dX6_init_121 : decode cX6_init 121 = .ok (.getfield 14, 3) := by decide +kernel
theorem dX6_init_124 : decode cX6_init 124 = .ok (.ldc 53, 2) := by decide +kernel
theorem dX6_init_126 : decode cX6_init 126 = .ok (.invokevirtual 55, 3) := by decide +kernel
theorem dX6_init_129 : decode cX6_init 129 = .ok (.new 59, 3) := by decide +kernel
theorem dX6_init_132 : decode cX6_init 132 = .ok (.dup, 1) := by decide +kernel
theorem dX6_init_133 : decode cX6_init 133 = .ok (.aload_n 0, 1) := by decide +kernel
theorem dX6_init_134 : decode cX6_init 134 = .ok (.getfield 14, 3) := by decide +kernel
theorem dX6_init_137 : decode cX6_init 137 = .ok (.aload_n 0, 1) := by decide +kernel
theorem dX6_init_138 : decode cX6_init 138 = .ok (.getfield 24, 3) := by decide +kernel
theorem dX6_init_141 : decode cX6_init 141 = .ok (.invokespecial 61, 3) := by decide +kernel
theorem dX6_init_144 : decode cX6_init 144 = .ok (.invokevirtual 64, 3) := by decide +kernel
theorem dX6_init_147 : decode cX6_init 147 = .ok (.pop, 1) := by decide +kernel
theorem dX6_init_148 : decode cX6_init 148 = .ok (.aload_n 0, 1) := by decide +kernel
theorem dX6_init_149 : decode cX6_init 149 = .ok (.getfield 14, 3) := by decide +kernel
theorem dX6_init_152 : decode cX6_init 152 = .ok (.iconst 0, 1) := by decide +kernel
theorem dX6_init_153 : decode cX6_init 153 = .ok (.invokevirtual 68, 3) := by decide +kernel
theorem dX6_init_156 : decode cX6_init 156 = .ok (.return_, 1) := by decide +kernel
theorem dX6_append_0 : decode cX6_append 0 = .ok (.aload_n 0, 1) := by decide +kernel
theorem dX6_append_1 : decode cX6_append 1 = .ok (.getfield 14, 3) := by decide +kernel
theorem dX6_append_4 : decode cX6_append 4 = .ok (.invokevirtual 71, 3) := by decide +kernel
theorem dX6_append_7 : decode cX6_append 7 = .ok (.bipush 20, 2) := by decide +kernel
theorem dX6_append_9 : decode cX6_append 9 = .ok (.iadd, 1) := by decide +kernel
theorem dX6_append_10 : decode cX6_append 10 = .ok (.sipush 800, 3) := by decide +kernel
theorem dX6_append_13 : decode cX6_append 13 = .ok (.if_icmp .le 13, 3) := by decide +kernel
theorem dX6_append_16 : decode cX6_append 16 = .ok (.new 75, 3) := by decide +kernel
theorem dX6_append_19 : decode cX6_append 19 = .ok (.dup, 1) := by decide +kernel
theorem dX6_append_20 : decode cX6_append 20 = .ok (.ldc 77, 2) := by decide +kernel
theorem dX6_append_22 : decode cX6_append 22 = .ok (.invokespecial 79, 3) := by decide +kernel
theorem dX6_append_25 : decode cX6_append 25 = .ok (.athrow, 1) := by decide +kernel
theorem dX6_append_26 : decode cX6_append 26 = .ok (.aload_n 0, 1) := by decide +kernel
theorem dX6_append_27 : decode cX6_append 27 = .ok (.getfield 14, 3) := by decide +kernel
theorem dX6_append_30 : decode cX6_append 30 = .ok (.iload_n 1, 1) := by decide +kernel
theorem dX6_append_31 : decode cX6_append 31 = .ok (.invokevirtual 81, 3) := by decide +kernel
theorem dX6_append_34 : decode cX6_append 34 = .ok (.aload_n 0, 1) := by decide +kernel
theorem dX6_append_35 : decode cX6_append 35 = .ok (.getfield 14, 3) := by decide +kernel
theorem dX6_append_38 : decode cX6_append 38 = .ok (.iload_n 2, 1) := by decide +kernel
theorem dX6_append_39 : decode cX6_append 39 = .ok (.invokevirtual 81, 3) := by decide +kernel
theorem dX6_append_42 : decode cX6_append 42 = .ok (.aload_n 0, 1) := by decide +kernel
theorem dX6_append_43 : decode cX6_append 43 = .ok (.getfield 14, 3) := by decide +kernel
theorem dX6_append_46 : decode cX6_append 46 = .ok (.iload_n 3, 1) := by decide +kernel
theorem dX6_append_47 : decode cX6_append 47 = .ok (.invokevirtual 81, 3) := by decide +kernel
theorem dX6_append_50 : decode cX6_append 50 = .ok (.aload_n 0, 1) := by decide +kernel
theorem dX6_append_51 : decode cX6_append 51 = .ok (.getfield 14, 3) := by decide +kernel
theorem dX6_append_54 : decode cX6_append 54 = .ok (.iload 4, 2) := by decide +kernel
theorem dX6_append_56 : decode cX6_append 56 = .ok (.invokevirtual 81, 3) := by decide +kernel
theorem dX6_append_59 : decode cX6_append 59 = .ok (.aload_n 0, 1) := by decide +kernel
theorem dX6_append_60 : decode cX6_append 60 = .ok (.getfield 14, 3) := by decide +kernel
theorem dX6_append_63 : decode cX6_append 63 = .ok (.iload 5, 2) := by decide +kernel
theorem dX6_append_65 : decode cX6_append 65 = .ok (.invokevirtual 81, 3) := by decide +kernel
theorem dX6_append_68 : decode cX6_append 68 = .ok (.aload_n 0, 1) := by decide +kernel
theorem dX6_append_69 : decode cX6_append 69 = .ok (.getfield 14, 3) := by decide +kernel
theorem dX6_append_72 : decode cX6_append 72 = .ok (.invokevirtual 71, 3) := by decide +kernel
theorem dX6_append_75 : decode cX6_append 75 = .ok (.ireturn, 1) := by decide +kernel
theorem dX6_truncate_0 : decode cX6_truncate 0 = .ok (.iload_n 1, 1) := by decide +kernel
theorem dX6_truncate_1 : decode cX6_truncate 1 = .ok (.ifCond .lt 14, 3) := by decide +kernel
theorem dX6_truncate_4 : decode cX6_truncate 4 = .ok (.iload_n 1, 1) := by decide +kernel
theorem dX6_truncate_5 : decode cX6_truncate 5 = .ok (.aload_n 0, 1) := by decide +kernel
theorem dX6_truncate_6 : decode cX6_truncate 6 = .ok (.getfield 14, 3) := by decide +kernel
theorem dX6_truncate_9 : decode cX6_truncate 9 = .ok (.invokevirtual 71, 3) := by decide +kernel
theorem dX6_truncate_12 : decode cX6_truncate 12 = .ok (.if_icmp .le 13, 3) := by decide +kernel
theorem dX6_truncate_15 : decode cX6_truncate 15 = .ok (.new 84, 3) := by decide +kernel
theorem dX6_truncate_18 : decode cX6_truncate 18 = .ok (.dup, 1) := by decide +kernel
theorem dX6_truncate_19 : decode cX6_truncate 19 = .ok (.ldc 86, 2) := by decide +kernel
theorem dX6_truncate_21 : decode cX6_truncate 21 = .ok (.invokespecial 88, 3) := by decide +kernel
theorem dX6_truncate_24 : decode cX6_truncate 24 = .ok (.athrow, 1) := by decide +kernel
theorem dX6_truncate_25 : decode cX6_truncate 25 = .ok (.aload_n 0, 1) := by decide +kernel
theorem dX6_truncate_26 : decode cX6_truncate 26 = .ok (.getfield 14, 3) := by decide +kernel
theorem dX6_truncate_29 : decode cX6_truncate 29 = .ok (.iload_n 1, 1) := by decide +kernel
theorem dX6_truncate_30 : decode cX6_truncate 30 = .ok (.invokevirtual 68, 3) := by decide +kernel
theorem dX6_truncate_33 : decode cX6_truncate 33 = .ok (.iload_n 1, 1) := by decide +kernel
theorem dX6_truncate_34 : decode cX6_truncate 34 = .ok (.ireturn, 1) := by decide +kernel
theorem dX6_load_0 : decode cX6_load 0 = .ok (.new 59, 3) := by decide +kernel
theorem dX6_load_3 : decode cX6_load 3 = .ok (.dup, 1) := by decide +kernel
theorem dX6_load_4 : decode cX6_load 4 = .ok (.aload_n 0, 1) := by decide +kernel
theorem dX6_load_5 : decode cX6_load 5 = .ok (.getfield 14, 3) := by decide +kernel
theorem dX6_load_8 : decode cX6_load 8 = .ok (.aload_n 0, 1) := by decide +kernel
theorem dX6_load_9 : decode cX6_load 9 = .ok (.getfield 28, 3) := by decide +kernel
theorem dX6_load_12 : decode cX6_load 12 = .ok (.invokespecial 61, 3) := by decide +kernel
theorem dX6_load_15 : decode cX6_load 15 = .ok (.astore_n 1, 1) := by decide +kernel
theorem dX6_load_16 : decode cX6_load 16 = .ok (.aload_n 1, 1) := by decide +kernel
theorem dX6_load_17 : decode cX6_load 17 = .ok (.invokevirtual 64, 3) := by decide +kernel
theorem dX6_load_20 : decode cX6_load 20 = .ok (.istore_n 2, 1) := by decide +kernel
theorem dX6_load_21 : decode cX6_load 21 = .ok (.aload_n 0, 1) := by decide +kernel
theorem dX6_load_22 : decode cX6_load 22 = .ok (.getfield 14, 3) := by decide +kernel
theorem dX6_load_25 : decode cX6_load 25 = .ok (.iconst 0, 1) := by decide +kernel
theorem dX6_load_26 : decode cX6_load 26 = .ok (.invokevirtual 68, 3) := by decide +kernel
theorem dX6_load_29 : decode cX6_load 29 = .ok (.aload_n 0, 1) := by decide +kernel
theorem dX6_load_30 : decode cX6_load 30 = .ok (.aload_n 1, 1) := by decide +kernel
theorem dX6_load_31 : decode cX6_load 31 = .ok (.getfield 89, 3) := by decide +kernel
theorem dX6_load_34 : decode cX6_load 34 = .ok (.putfield 46, 3) := by decide +kernel
theorem dX6_load_37 : decode cX6_load 37 = .ok (.aload_n 0, 1) := by decide +kernel
theorem dX6_load_38 : decode cX6_load 38 = .ok (.aload_n 1, 1) := by decide +kernel
theorem dX6_load_39 : decode cX6_load 39 = .ok (.getfield 92, 3) := by decide +kernel
theorem dX6_load_42 : decode cX6_load 42 = .ok (.putfield 50, 3) := by decide +kernel
theorem dX6_load_45 : decode cX6_load 45 = .ok (.iload_n 2, 1) := by decide +kernel
theorem dX6_load_46 : decode cX6_load 46 = .ok (.ifCond .ne 13, 3) := by decide +kernel
theorem dX6_load_49 : decode cX6_load 49 = .ok (.new 95, 3) := by decide +kernel
theorem dX6_load_52 : decode cX6_load 52 = .ok (.dup, 1) := by decide +kernel
theorem dX6_load_53 : decode cX6_load 53 = .ok (.ldc 97, 2) := by decide +kernel
theorem dX6_load_55 : decode cX6_load 55 = .ok (.invokespecial 99, 3) := by decide +kernel
theorem dX6_load_58 : decode cX6_load 58 = .ok (.athrow, 1) := by decide +kernel
theorem dX6_errorCode_0 : decode cX6_errorCode 0 = .ok (.aload_n 0, 1) := by decide +kernel
theorem dX6_errorCode_1 : decode cX6_errorCode 1 = .ok (.getfield 46, 3) := by decide +kernel
theorem dX6_errorCode_4 : decode cX6_errorCode 4 = .ok (.ireturn, 1) := by decide +kernel
theorem dX6_errorPosition_0 : decode cX6_errorPosition 0 = .ok (.aload_n 0, 1) := by decide +kernel
theorem dX6_errorPosition_1 : decode cX6_errorPosition 1 = .ok (.getfield 50, 3) := by decide +kernel
theorem dX6_errorPosition_4 : decode cX6_errorPosition 4 = .ok (.ireturn, 1) := by decide +kernel
theorem dX6_find_0 : decode cX6_find 0 = .ok (.aload_n 0, 1) := by decide +kernel
theorem dX6_find_1 : decode cX6_find 1 = .ok (.getfield 14, 3) := by decide +kernel
theorem dX6_find_4 : decode cX6_find 4 = .ok (.invokevirtual 114, 3) := by decide +kernel
theorem dX6_find_7 : decode cX6_find 7 = .ok (.istore_n 2, 1) := by decide +kernel
theorem dX6_find_8 : decode cX6_find 8 = .ok (.aload_n 0, 1) := by decide +kernel
theorem dX6_find_9 : decode cX6_find 9 = .ok (.getfield 14, 3) := by decide +kernel
theorem dX6_find_12 : decode cX6_find 12 = .ok (.iconst 0, 1) := by decide +kernel
theorem dX6_find_13 : decode cX6_find 13 = .ok (.invokevirtual 68, 3) := by decide +kernel
theorem dX6_find_16 : decode cX6_find 16 = .ok (.iload_n 1, 1) := by decide +kernel
theorem dX6_find_17 : decode cX6_find 17 = .ok (.ifCond .lt 8, 3) := by decide +kernel
theorem dX6_find_20 : decode cX6_find 20 = .ok (.iload_n 1, 1) := by decide +kernel
theorem dX6_find_21 : decode cX6_find 21 = .ok (.iconst 2, 1) := by decide +kernel
theorem dX6_find_22 : decode cX6_find 22 = .ok (.if_icmp .le 13, 3) := by decide +kernel
theorem dX6_find_25 : decode cX6_find 25 = .ok (.new 95, 3) := by decide +kernel
theorem dX6_find_28 : decode cX6_find 28 = .ok (.dup, 1) := by decide +kernel
theorem dX6_find_29 : decode cX6_find 29 = .ok (.ldc 117, 2) := by decide +kernel
theorem dX6_find_31 : decode cX6_find 31 = .ok (.invokespecial 99, 3) := by decide +kernel
theorem dX6_find_34 : decode cX6_find 34 = .ok (.athrow, 1) := by decide +kernel
theorem dX6_find_35 : decode cX6_find 35 = .ok (.iload_n 1, 1) := by decide +kernel
theorem dX6_find_36 : decode cX6_find 36 = .ok (.ifCond .ne 18, 3) := by decide +kernel
theorem dX6_find_39 : decode cX6_find 39 = .ok (.aload_n 0, 1) := by decide +kernel
theorem dX6_find_40 : decode cX6_find 40 = .ok (.getfield 24, 3) := by decide +kernel
theorem dX6_find_43 : decode cX6_find 43 = .ok (.getfield 119, 3) := by decide +kernel
theorem dX6_find_46 : decode cX6_find 46 = .ok (.iconst 0, 1) := by decide +kernel
theorem dX6_find_47 : decode cX6_find 47 = .ok (.iload_n 2, 1) := by decide +kernel
theorem dX6_find_48 : decode cX6_find 48 = .ok (.invokevirtual 122, 3) := by decide +kernel
theorem dX6_find_51 : decode cX6_find 51 = .ok (.goto 35, 3) := by decide +kernel
theorem dX6_find_54 : decode cX6_find 54 = .ok (.iload_n 1, 1) := by decide +kernel
theorem dX6_find_55 : decode cX6_find 55 = .ok (.iconst 1, 1) := by decide +kernel
theorem dX6_find_56 : decode cX6_find 56 = .ok (.if_icmp .ne 18, 3) := by decide +kernel
theorem dX6_find_59 : decode cX6_find 59 = .ok (.aload_n 0, 1) := by decide +kernel
theorem dX6_find_60 : decode cX6_find 60 = .ok (.getfield 24, 3) := by decide +kernel
theorem dX6_find_63 : decode cX6_find 63 = .ok (.getfield 126, 3) := by decide +kernel
theorem dX6_find_66 : decode cX6_find 66 = .ok (.iconst 0, 1) := by decide +kernel
theorem dX6_find_67 : decode cX6_find 67 = .ok (.iload_n 2, 1) := by decide +kernel
theorem dX6_find_68 : decode cX6_find 68 = .ok (.invokevirtual 122, 3) := by decide +kernel
theorem dX6_find_71 : decode cX6_find 71 = .ok (.goto 15, 3) := by decide +kernel
theorem dX6_find_74 : decode cX6_find 74 = .ok (.aload_n 0, 1) := by decide +kernel
theorem dX6_find_75 : decode cX6_find 75 = .ok (.getfield 24, 3) := by decide +kernel
theorem dX6_find_78 : decode cX6_find 78 = .ok (.getfield 107, 3) := by decide +kernel
theorem dX6_find_81 : decode cX6_find 81 = .ok (.iconst 5, 1) := by decide +kernel
theorem dX6_find_82 : decode cX6_find 82 = .ok (.iload_n 2, 1) := by decide +kernel
theorem dX6_find_83 : decode cX6_find 83 = .ok (.invokevirtual 122, 3) := by decide +kernel
theorem dX6_find_86 : decode cX6_find 86 = .ok (.istore_n 3, 1) := by decide +kernel
theorem dX6_find_87 : decode cX6_find 87 = .ok (.iload_n 3, 1) := by decide +kernel
theorem dX6_find_88 : decode cX6_find 88 = .ok (.iconst (-1), 1) := by decide +kernel
theorem dX6_find_89 : decode cX6_find 89 = .ok (.if_icmp .ne 13, 3) := by decide +kernel
theorem dX6_find_92 : decode cX6_find 92 = .ok (.new 129, 3) := by decide +kernel
theorem dX6_find_95 : decode cX6_find 95 = .ok (.dup, 1) := by decide +kernel
theorem dX6_find_96 : decode cX6_find 96 = .ok (.ldc 131, 2) := by decide +kernel
theorem dX6_find_98 : decode cX6_find 98 = .ok (.invokespecial 133, 3) := by decide +kernel
theorem dX6_find_101 : decode cX6_find 101 = .ok (.athrow, 1) := by decide +kernel
theorem dX6_count_0 : decode cX6_count 0 = .ok (.iload_n 1, 1) := by decide +kernel
theorem dX6_count_1 : decode cX6_count 1 = .ok (.tableswitch 171 0 11 #[63, 74, 85, 96, 104, 115, 123, 131, 139, 147, 155, 163], 63) := by decide +kernel
theorem dX6_count_64 : decode cX6_count 64 = .ok (.aload_n 0, 1) := by decide +kernel
theorem dX6_count_65 : decode cX6_count 65 = .ok (.getfield 24, 3) := by decide +kernel
theorem dX6_count_68 : decode cX6_count 68 = .ok (.getfield 119, 3) := by decide +kernel
theorem dX6_count_71 : decode cX6_count 71 = .ok (.invokevirtual 111, 3) := by decide +kernel
theorem dX6_count_74 : decode cX6_count 74 = .ok (.ireturn, 1) := by decide +kernel
theorem dX6_count_75 : decode cX6_count 75 = .ok (.aload_n 0, 1) := by decide +kernel
theorem dX6_count_76 : decode cX6_count 76 = .ok (.getfield 24, 3) := by decide +kernel
theorem dX6_count_79 : decode cX6_count 79 = .ok (.getfield 126, 3) := by decide +kernel
theorem dX6_count_82 : decode cX6_count 82 = .ok (.invokevirtual 111, 3) := by decide +kernel
theorem dX6_count_85 : decode cX6_count 85 = .ok (.ireturn, 1) := by decide +kernel
theorem dX6_count_86 : decode cX6_count 86 = .ok (.aload_n 0, 1) := by decide +kernel
theorem dX6_count_87 : decode cX6_count 87 = .ok (.getfield 24, 3) := by decide +kernel
theorem dX6_count_90 : decode cX6_count 90 = .ok (.getfield 107, 3) := by decide +kernel
theorem dX6_count_93 : decode cX6_count 93 = .ok (.invokevirtual 111, 3) := by decide +kernel
theorem dX6_count_96 : decode cX6_count 96 = .ok (.ireturn, 1) := by decide +kernel
theorem dX6_count_97 : decode cX6_count 97 = .ok (.aload_n 0, 1) := by decide +kernel
theorem dX6_count_98 : decode cX6_count 98 = .ok (.getfield 24, 3) := by decide +kernel
theorem dX6_count_101 : decode cX6_count 101 = .ok (.getfield 134, 3) := by decide +kernel
theorem dX6_count_104 : decode cX6_count 104 = .ok (.ireturn, 1) := by decide +kernel
theorem dX6_count_105 : decode cX6_count 105 = .ok (.aload_n 0, 1) := by decide +kernel
theorem dX6_count_106 : decode cX6_count 106 = .ok (.getfield 24, 3) := by decide +kernel
theorem dX6_count_109 : decode cX6_count 109 = .ok (.getfield 137, 3) := by decide +kernel
theorem dX6_count_112 : decode cX6_count 112 = .ok (.invokestatic 141, 3) := by decide +kernel
theorem dX6_count_115 : decode cX6_count 115 = .ok (.ireturn, 1) := by decide +kernel
theorem dX6_count_116 : decode cX6_count 116 = .ok (.aload_n 0, 1) := by decide +kernel
theorem dX6_count_117 : decode cX6_count 117 = .ok (.getfield 24, 3) := by decide +kernel
theorem dX6_count_120 : decode cX6_count 120 = .ok (.getfield 145, 3) := by decide +kernel
theorem dX6_count_123 : decode cX6_count 123 = .ok (.ireturn, 1) := by decide +kernel
theorem dX6_count_124 : decode cX6_count 124 = .ok (.aload_n 0, 1) := by decide +kernel
theorem dX6_count_125 : decode cX6_count 125 = .ok (.getfield 24, 3) := by decide +kernel
theorem dX6_count_128 : decode cX6_count 128 = .ok (.invokevirtual 148, 3) := by decide +kernel
theorem dX6_count_131 : decode cX6_count 131 = .ok (.ireturn, 1) := by decide +kernel
theorem dX6_count_132 : decode cX6_count 132 = .ok (.aload_n 0, 1) := by decide +kernel
theorem dX6_count_133 : decode cX6_count 133 = .ok (.getfield 24, 3) := by decide +kernel
theorem dX6_count_136 : decode cX6_count 136 = .ok (.invokevirtual 151, 3) := by decide +kernel
theorem dX6_count_139 : decode cX6_count 139 = .ok (.ireturn, 1) := by decide +kernel
theorem dX6_count_140 : decode cX6_count 140 = .ok (.aload_n 0, 1) := by decide +kernel
theorem dX6_count_141 : decode cX6_count 141 = .ok (.getfield 24, 3) := by decide +kernel
theorem dX6_count_144 : decode cX6_count 144 = .ok (.getfield 154, 3) := by decide +kernel
theorem dX6_count_147 : decode cX6_count 147 = .ok (.ireturn, 1) := by decide +kernel
theorem dX6_count_148 : decode cX6_count 148 = .ok (.aload_n 0, 1) := by decide +kernel
theorem dX6_count_149 : decode cX6_count 149 = .ok (.getfield 24, 3) := by decide +kernel
theorem dX6_count_152 : decode cX6_count 152 = .ok (.getfield 157, 3) := by decide +kernel
theorem dX6_count_155 : decode cX6_count 155 = .ok (.ireturn, 1) := by decide +kernel
theorem dX6_count_156 : decode cX6_count 156 = .ok (.aload_n 0, 1) := by decide +kernel
